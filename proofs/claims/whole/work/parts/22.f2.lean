def f_X4_reads_134 (k17 : rhM → Nat → Int32 → Option (Int32 × rhM)) (Γ : rhG) (M : rhM) (v0 : Nat) (v4 : Int32) : Option (Int32 × rhM) :=
  let x12 : Int32 := v4 + 1
  k17 M v0 x12
def f_X4_reads_17 (k140 : rhM → Nat → Option (Int32 × rhM)) (Γ : rhG) : Nat → rhM → Nat → Int32 → Option (Int32 × rhM)
  | 0, _, _, _ => none
  | n + 1, M, v0, v4 =>
    if v4 < 1600 then
      (rhck (Γ.2.2.1 v0 = 5) <|
      if (M.1 v0 0) = 0 then
        (rhck (Γ.2.2.1 (M.2.2 v0 2) = 9) <|
        if (M.1 (M.2.2 v0 2) 4) = 0 then
          (k140 M v0)
        else
          if (M.1 (M.2.2 v0 2) 7) = 0 then
            ((f_X4_readRail Γ M v0).bind fun r11 =>
            f_X4_reads_134 (f_X4_reads_17 k140 Γ n) Γ r11 v0 v4)
          else
          if (M.1 (M.2.2 v0 2) 7) = 1 then
            ((f_X4_readHouse Γ M v0).bind fun r14 =>
            f_X4_reads_134 (f_X4_reads_17 k140 Γ n) Γ r14 v0 v4)
          else
          if (M.1 (M.2.2 v0 2) 7) = 2 then
            ((f_X4_readBeside Γ M v0).bind fun r16 =>
            f_X4_reads_134 (f_X4_reads_17 k140 Γ n) Γ r16 v0 v4)
          else
          if (M.1 (M.2.2 v0 2) 7) = 3 then
            ((f_X4_readNeck Γ M v0).bind fun r18 =>
            f_X4_reads_134 (f_X4_reads_17 k140 Γ n) Γ r18 v0 v4)
          else
          if (M.1 (M.2.2 v0 2) 7) = 4 then
            ((f_X4_readDraws Γ M v0).bind fun r20 =>
            f_X4_reads_134 (f_X4_reads_17 k140 Γ n) Γ r20 v0 v4)
          else
          if (M.1 (M.2.2 v0 2) 7) = 5 then
            ((f_X4_readLaw Γ M v0).bind fun r22 =>
            f_X4_reads_134 (f_X4_reads_17 k140 Γ n) Γ r22 v0 v4)
          else
          (f_X4_refuse Γ M v0).bind fun r23 =>
          f_X4_reads_134 (f_X4_reads_17 k140 Γ n) Γ r23 v0 v4)
      else
        k140 M v0)
    else
      k140 M v0
def f_X4_reads_140 (Γ : rhG) (M : rhM) (v0 : Nat) : Option (Int32 × rhM) :=
  rhck (Γ.2.2.1 v0 = 5) <|
  (f_X4_firstWord Γ M v0).bind fun r25 =>
  rhck (Γ.2.2.1 (M.2.2 v0 10) = 10) <|
  let M27 := rhsl M (M.2.2 v0 10) 5 r25
  if (M.1 v0 0) = 0 then
    (some ((1, M27)))
  else
    some ((0, M27))
def f_X4_reads (Γ : rhG) (M : rhM) (v0 : Nat) (v1 : Nat) (v2 : Int32) (v3 : Nat) : Option (Int32 × rhM) :=
  rhck (Γ.2.2.1 v0 = 5) <|
  (f_X4_begin Γ M v0 v3).bind fun r2 =>
  rhck (Γ.2.2.1 (r2.2.2 v0 2) = 9) <|
  (f_X8_begin Γ r2 (r2.2.2 v0 2) v1 v2).bind fun r4 =>
  f_X4_reads_17 (f_X4_reads_140 Γ) Γ rhFU r4 v0 0
set_option maxHeartbeats 4000000 in
set_option maxRecDepth 100000 in
theorem b_X4_reads_134 {E : rhE} {Γ : rhG} {k17 : rhM → Nat → Int32 → Option (Int32 × rhM)} (hk17 : ∀ (M : rhM) (v0 : Nat) (v4 : Int32), rhF E 70 5 yX4_reads cX4_reads (some .boolean) Γ (rhe1I Γ) (k17 M v0 v4) 17 [(0, rhR v0), (4, rhI v4)] [] Γ M) : ∀ (M : rhM) (v0 : Nat) (v4 : Int32), rhF E 70 5 yX4_reads cX4_reads (some .boolean) Γ (rhe1I Γ) (f_X4_reads_134 k17 Γ M v0 v4) 134 [(0, rhR v0), (4, rhI v4)] [] Γ M := by
  intro M v0 v4
  rw [f_X4_reads_134]
  refine rhF.iinc (pc := 134) (L' := [(4, rhI _), (0, rhR _)]) dX4_reads_134 1 rfl rfl (by decide) rfl ?_
  refine rhF.goto (pc := 137) 17 dX4_reads_137 (by decide) ?_
  refine rhF.sub [1, 0] rfl ?_
  exact hk17 _ _ _
set_option maxHeartbeats 4000000 in
set_option maxRecDepth 100000 in
theorem b_X4_reads_17 {E : rhE} {Γ : rhG} {k140 : rhM → Nat → Option (Int32 × rhM)} (hk140 : ∀ (M : rhM) (v0 : Nat), rhF E 70 5 yX4_reads cX4_reads (some .boolean) Γ (rhe1I Γ) (k140 M v0) 140 [(0, rhR v0)] [] Γ M) : ∀ (n : Nat) (M : rhM) (v0 : Nat) (v4 : Int32), rhF E 70 5 yX4_reads cX4_reads (some .boolean) Γ (rhe1I Γ) (f_X4_reads_17 k140 Γ n M v0 v4) 17 [(0, rhR v0), (4, rhI v4)] [] Γ M := by
  intro n
  induction n with
  | zero => intro M v0 v4; rw [f_X4_reads_17]; exact rhF.nope
  | succ n ih =>
    intro M v0 v4
    rw [f_X4_reads_17]
    refine rhF.iload (pc := 17) dX4_reads_17 1 rfl ?_
    refine rhF.sipush (pc := 19) (v := 1600) dX4_reads_19 (by decide) ?_
    refine rhF.icmp_ge (pc := 22) 140 dX4_reads_22 (by decide) (fun h5 => ?_) (fun h5 => ?_)
    · refine rhF.aload_n (pc := 25) dX4_reads_25 0 rfl ?_
      refine rhF.ck (fun h6 => ?_)
      refine rhF.get (pc := 26) (rhI _) dX4_reads_26 fl_X4_43 h6 rfl ?_
      refine rhF.if_ne (pc := 29) 140 dX4_reads_29 (by decide) (fun h7 => ?_) (fun h7 => ?_)
      · refine rhF.aload_n (pc := 32) dX4_reads_32 0 rfl ?_
        refine rhF.get (pc := 33) (rhR _) dX4_reads_33 fl_X4_18 h6 rfl ?_
        refine rhF.ck (fun h8 => ?_)
        refine rhF.get (pc := 36) (rhI _) dX4_reads_36 fl_X4_46 h8 rfl ?_
        refine rhF.if_eq (pc := 39) 140 dX4_reads_39 (by decide) (fun h9 => ?_) (fun h9 => ?_)
        · refine rhF.sub [0] rfl ?_
          exact hk140 _ _
        · refine rhF.aload_n (pc := 42) dX4_reads_42 0 rfl ?_
          refine rhF.get (pc := 43) (rhR _) dX4_reads_43 fl_X4_18 h6 rfl ?_
          refine rhF.get (pc := 46) (rhI _) dX4_reads_46 fl_X4_49 h8 rfl ?_
          refine rhF.ite (fun h10 => ?_) (fun h10 => ?_)
          · refine rhF.tsIn (pc := 49) 88 0 dX4_reads_49 (by rw [h10]; decide) (by decide) rfl (by decide) ?_
            refine rhF.aload_n (pc := 88) dX4_reads_88 0 rfl ?_
            refine rhF.callV (pc := 89) (ci := 4) (embc := rhe1U _) [] dX4_reads_89 ml_X4_52 mv_X4_readRail ⟨_, rfl, rfl⟩ h6 (c_X4_readRail _ _ _ _) (by decide) (by decide) rfl (Nat.le_of_ble_eq_true rfl) (fun r11 _ => ?_)
            refine rhF.goto (pc := 92) 134 dX4_reads_92 (by decide) ?_
            exact (b_X4_reads_134 ih) _ _ _
          · skip
            refine rhF.ite (fun h13 => ?_) (fun h13 => ?_)
            · refine rhF.tsIn (pc := 49) 95 1 dX4_reads_49 (by rw [h13]; decide) (by decide) rfl (by decide) ?_
              refine rhF.aload_n (pc := 95) dX4_reads_95 0 rfl ?_
              refine rhF.callV (pc := 96) (ci := 4) (embc := rhe1U _) [] dX4_reads_96 ml_X4_55 mv_X4_readHouse ⟨_, rfl, rfl⟩ h6 (c_X4_readHouse _ _ _ _) (by decide) (by decide) rfl (Nat.le_of_ble_eq_true rfl) (fun r14 _ => ?_)
              refine rhF.goto (pc := 99) 134 dX4_reads_99 (by decide) ?_
              exact (b_X4_reads_134 ih) _ _ _
            · skip
              refine rhF.ite (fun h15 => ?_) (fun h15 => ?_)
              · refine rhF.tsIn (pc := 49) 102 2 dX4_reads_49 (by rw [h15]; decide) (by decide) rfl (by decide) ?_
                refine rhF.aload_n (pc := 102) dX4_reads_102 0 rfl ?_
                refine rhF.callV (pc := 103) (ci := 4) (embc := rhe1U _) [] dX4_reads_103 ml_X4_58 mv_X4_readBeside ⟨_, rfl, rfl⟩ h6 (c_X4_readBeside _ _ _ _) (by decide) (by decide) rfl (Nat.le_of_ble_eq_true rfl) (fun r16 _ => ?_)
                refine rhF.goto (pc := 106) 134 dX4_reads_106 (by decide) ?_
                exact (b_X4_reads_134 ih) _ _ _
              · skip
                refine rhF.ite (fun h17 => ?_) (fun h17 => ?_)
                · refine rhF.tsIn (pc := 49) 109 3 dX4_reads_49 (by rw [h17]; decide) (by decide) rfl (by decide) ?_
                  refine rhF.aload_n (pc := 109) dX4_reads_109 0 rfl ?_
                  refine rhF.callV (pc := 110) (ci := 4) (embc := rhe1U _) [] dX4_reads_110 ml_X4_61 mv_X4_readNeck ⟨_, rfl, rfl⟩ h6 (c_X4_readNeck _ _ _ _) (by decide) (by decide) rfl (Nat.le_of_ble_eq_true rfl) (fun r18 _ => ?_)
                  refine rhF.goto (pc := 113) 134 dX4_reads_113 (by decide) ?_
                  exact (b_X4_reads_134 ih) _ _ _
                · skip
                  refine rhF.ite (fun h19 => ?_) (fun h19 => ?_)
                  · refine rhF.tsIn (pc := 49) 116 4 dX4_reads_49 (by rw [h19]; decide) (by decide) rfl (by decide) ?_
                    refine rhF.aload_n (pc := 116) dX4_reads_116 0 rfl ?_
                    refine rhF.callV (pc := 117) (ci := 4) (embc := rhe1U _) [] dX4_reads_117 ml_X4_64 mv_X4_readDraws ⟨_, rfl, rfl⟩ h6 (c_X4_readDraws _ _ _ _) (by decide) (by decide) rfl (Nat.le_of_ble_eq_true rfl) (fun r20 _ => ?_)
                    refine rhF.goto (pc := 120) 134 dX4_reads_120 (by decide) ?_
                    exact (b_X4_reads_134 ih) _ _ _
                  · skip
                    refine rhF.ite (fun h21 => ?_) (fun h21 => ?_)
                    · refine rhF.tsIn (pc := 49) 123 5 dX4_reads_49 (by rw [h21]; decide) (by decide) rfl (by decide) ?_
                      refine rhF.aload_n (pc := 123) dX4_reads_123 0 rfl ?_
                      refine rhF.callV (pc := 124) (ci := 4) (embc := rhe1U _) [] dX4_reads_124 ml_X4_67 mv_X4_readLaw ⟨_, rfl, rfl⟩ h6 (c_X4_readLaw _ _ _ _) (by decide) (by decide) rfl (Nat.le_of_ble_eq_true rfl) (fun r22 _ => ?_)
                      refine rhF.goto (pc := 127) 134 dX4_reads_127 (by decide) ?_
                      exact (b_X4_reads_134 ih) _ _ _
                    · skip
                      have zh10 := rhne h10 (n := 0) (by decide)
                      have zh13 := rhne h13 (n := 1) (by decide)
                      have zh15 := rhne h15 (n := 2) (by decide)
                      have zh17 := rhne h17 (n := 3) (by decide)
                      have zh19 := rhne h19 (n := 4) (by decide)
                      have zh21 := rhne h21 (n := 5) (by decide)
                      refine rhF.tsOut (pc := 49) 130 dX4_reads_49 (by omega) (by decide) ?_
                      refine rhF.aload_n (pc := 130) dX4_reads_130 0 rfl ?_
                      refine rhF.callV (pc := 131) (ci := 4) (embc := rhe1U _) [] dX4_reads_131 ml_X4_70 mv_X4_refuse ⟨_, rfl, rfl⟩ h6 (c_X4_refuse _ _ _ _) (by decide) (by decide) rfl (Nat.le_of_ble_eq_true rfl) (fun r23 _ => ?_)
                      exact (b_X4_reads_134 ih) _ _ _
      · refine rhF.sub [0] rfl ?_
        exact hk140 _ _
    · refine rhF.sub [0] rfl ?_
      exact hk140 _ _
set_option maxHeartbeats 4000000 in
set_option maxRecDepth 100000 in
theorem b_X4_reads_140 {E : rhE} {Γ : rhG} : ∀ (M : rhM) (v0 : Nat), rhF E 70 5 yX4_reads cX4_reads (some .boolean) Γ (rhe1I Γ) (f_X4_reads_140 Γ M v0) 140 [(0, rhR v0)] [] Γ M := by
  intro M v0
  rw [f_X4_reads_140]
  refine rhF.aload_n (pc := 140) dX4_reads_140 0 rfl ?_
  refine rhF.ck (fun h24 => ?_)
  refine rhF.get (pc := 141) (rhR _) dX4_reads_141 fl_X4_73 h24 rfl ?_
  refine rhF.aload_n (pc := 144) dX4_reads_144 0 rfl ?_
  refine rhF.callV (pc := 145) (ci := 4) (embc := rhe0J _ _) [] dX4_reads_145 ml_X4_77 mv_X4_firstWord ⟨_, rfl, rfl⟩ h24 (c_X4_firstWord _ _ _ _) (by decide) (by decide) rfl (Nat.le_of_ble_eq_true rfl) (fun r25 _ => ?_)
  refine rhF.ck (fun h26 => ?_)
  refine rhF.putl (pc := 148) dX4_reads_148 fl_X4_81 h26 (fun q hq => by cases hq; exact Or.inl rfl) ⟨rfl, rfl⟩ (fun _ => rfl) ?_
  refine rhF.aload_n (pc := 151) dX4_reads_151 0 rfl ?_
  refine rhF.get (pc := 152) (rhI _) dX4_reads_152 fl_X4_43 h24 rfl ?_
  refine rhF.if_ne (pc := 155) 162 dX4_reads_155 (by decide) (fun h28 => ?_) (fun h28 => ?_)
  · refine rhF.iconst (pc := 158) (v := 1) dX4_reads_158 (by decide) ?_
    refine rhF.goto (pc := 159) 163 dX4_reads_159 (by decide) ?_
    exact rhF.zret (pc := 163) dX4_reads_163 rfl rfl rfl
  · refine rhF.iconst (pc := 162) (v := 0) dX4_reads_162 (by decide) ?_
    exact rhF.zret (pc := 163) dX4_reads_163 rfl rfl rfl
set_option maxHeartbeats 4000000 in
set_option maxRecDepth 100000 in
theorem b_X4_reads {E : rhE} {Γ : rhG} : ∀ (M : rhM) (v0 : Nat) (v1 : Nat) (v2 : Int32) (v3 : Nat), rhF E 70 5 yX4_reads cX4_reads (some .boolean) Γ (rhe1I Γ) (f_X4_reads Γ M v0 v1 v2 v3) 0 [(0, rhR v0), (1, rhR v1), (2, rhI v2), (3, rhR v3)] [] Γ M := by
  intro M v0 v1 v2 v3
  rw [f_X4_reads]
  refine rhF.aload_n (pc := 0) dX4_reads_0 0 rfl ?_
  refine rhF.aload_n (pc := 1) dX4_reads_1 3 rfl ?_
  refine rhF.ck (fun h1 => ?_)
  refine rhF.callV (pc := 2) (ci := 4) (embc := rhe1U _) [rhR _] dX4_reads_2 ml_X4_36 mv_X4_begin ⟨_, rfl, rfl⟩ h1 (c_X4_begin _ _ _ _ _) (by decide) (by decide) rfl (Nat.le_of_ble_eq_true rfl) (fun r2 _ => ?_)
  refine rhF.aload_n (pc := 5) dX4_reads_5 0 rfl ?_
  refine rhF.get (pc := 6) (rhR _) dX4_reads_6 fl_X4_18 h1 rfl ?_
  refine rhF.aload_n (pc := 9) dX4_reads_9 1 rfl ?_
  refine rhF.iload_n (pc := 10) dX4_reads_10 2 rfl ?_
  refine rhF.ck (fun h3 => ?_)
  refine rhF.callV (pc := 11) (ci := 8) (embc := rhe1U _) [rhR _, rhI _] dX4_reads_11 ml_X4_40 mv_X8_begin ⟨_, rfl, rfl⟩ h3 (c_X8_begin _ _ _ _ _ _) (by decide) (by decide) rfl (Nat.le_of_ble_eq_true rfl) (fun r4 _ => ?_)
  refine rhF.iconst (pc := 14) (v := 0) dX4_reads_14 (by decide) ?_
  refine rhF.istore (pc := 15) (L' := [(4, rhI _), (0, rhR _), (1, rhR _), (2, rhI _), (3, rhR _)]) dX4_reads_15 (by decide) rfl ?_
  refine rhF.sub [1, 0] rfl ?_
  exact (b_X4_reads_17 (b_X4_reads_140) rhFU) _ _ _
theorem c_X4_reads (E : rhE) (Γ : rhG) (M : rhM) (v0 : Nat) (v1 : Nat) (v2 : Int32) (v3 : Nat) : ∀ a, f_X4_reads Γ M v0 v1 v2 v3 = some a → rhC E 70 yX4_reads cX4_reads 5 (some .boolean) [rhR v0, rhR v1, rhI v2, rhR v3] Γ M ((rhe1I Γ) a) := rhF.met (by decide +kernel) (Nat.le_of_ble_eq_true rfl) (b_X4_reads M v0 v1 v2 v3)
def f_X10_addTurns_12 (Γ : rhG) : Nat → rhM → Nat → Int32 → Int32 → Int32 → Int32 → Option (rhM)
  | 0, _, _, _, _, _, _ => none
  | n + 1, M, v0, v1, v2, v3, v4 =>
    rhck (Γ.2.2.1 v0 = 11) <|
    if v4 < (1 <<< ((M.1 v0 0) &&& 31)) then
      (let x4 := v4 &&& ((1 <<< (v2 &&& 31)) - 1)
      let x5 := (rhus v4 (v2 + 1)) <<< ((v2 + 1) &&& 31)
      rhck (Γ.2.2.1 (M.2.2 v0 4) = 15) <|
      rhck (0 ≤ ((v1 * 64) + v4).toInt ∧ ((v1 * 64) + v4).toInt < (Γ.2.2.2 (M.2.2 v0 4) : Nat)) <|
      rhck (Γ.2.2.1 (M.2.2 v0 2) = 15) <|
      rhck (0 ≤ (v2).toInt ∧ (v2).toInt < (Γ.2.2.2 (M.2.2 v0 2) : Nat)) <|
      (f_J6_bitCount_0f7a4 Γ M x4).bind fun r10 =>
      rhck (Γ.2.2.1 (M.2.2 v0 3) = 15) <|
      rhck (0 ≤ (x5).toInt ∧ (x5).toInt < (Γ.2.2.2 (M.2.2 v0 3) : Nat)) <|
      rhck (0 ≤ (v3 + v4).toInt ∧ (v3 + v4).toInt < (Γ.2.2.2 (M.2.2 v0 4) : Nat)) <|
      let M14 := rhsi M (M.2.2 v0 4) (v3 + v4 : Int32).toNatClampNeg (((M.1 (M.2.2 v0 4) ((v1 * 64) + v4).toNatClampNeg) + ((M.1 (M.2.2 v0 2) v2.toNatClampNeg) * r10)) - (M.1 (M.2.2 v0 3) x5.toNatClampNeg))
      let x15 : Int32 := v4 + 1
      f_X10_addTurns_12 Γ n M14 v0 v1 v2 v3 x15)
    else
      some M
def f_X10_addTurns (Γ : rhG) (M : rhM) (v0 : Nat) (v1 : Int32) (v2 : Int32) : Option (rhM) :=
  let x1 := (v1 ||| (1 <<< (v2 &&& 31))) * 64
  f_X10_addTurns_12 Γ rhFU M v0 v1 v2 x1 0
set_option maxHeartbeats 4000000 in
set_option maxRecDepth 100000 in
theorem b_X10_addTurns_12 {E : rhE} {Γ : rhG} : ∀ (n : Nat) (M : rhM) (v0 : Nat) (v1 : Int32) (v2 : Int32) (v3 : Int32) (v4 : Int32), rhF E 5 7 yX10_addTurns cX10_addTurns none Γ (rhe1U Γ) (f_X10_addTurns_12 Γ n M v0 v1 v2 v3 v4) 12 [(0, rhR v0), (1, rhI v1), (2, rhI v2), (3, rhI v3), (4, rhI v4)] [] Γ M := by
  intro n
  induction n with
  | zero => intro M v0 v1 v2 v3 v4; rw [f_X10_addTurns_12]; exact rhF.nope
  | succ n ih =>
    intro M v0 v1 v2 v3 v4
    rw [f_X10_addTurns_12]
    refine rhF.iload (pc := 12) dX10_addTurns_12 4 rfl ?_
    refine rhF.iconst (pc := 14) (v := 1) dX10_addTurns_14 (by decide) ?_
    refine rhF.aload_n (pc := 15) dX10_addTurns_15 0 rfl ?_
    refine rhF.ck (fun h2 => ?_)
    refine rhF.get (pc := 16) (rhI _) dX10_addTurns_16 fl_X10_21 h2 rfl ?_
    refine rhF.ishl (pc := 19) dX10_addTurns_19 ?_
    refine rhF.icmp_ge (pc := 20) 93 dX10_addTurns_20 (by decide) (fun h3 => ?_) (fun h3 => ?_)
    · refine rhF.iload (pc := 23) dX10_addTurns_23 4 rfl ?_
      refine rhF.iconst (pc := 25) (v := 1) dX10_addTurns_25 (by decide) ?_
      refine rhF.iload_n (pc := 26) dX10_addTurns_26 2 rfl ?_
      refine rhF.ishl (pc := 27) dX10_addTurns_27 ?_
      refine rhF.iconst (pc := 28) (v := 1) dX10_addTurns_28 (by decide) ?_
      refine rhF.isub (pc := 29) dX10_addTurns_29 ?_
      refine rhF.iand (pc := 30) dX10_addTurns_30 ?_
      refine rhF.istore (pc := 31) (L' := [(5, rhI _), (0, rhR _), (1, rhI _), (2, rhI _), (3, rhI _), (4, rhI _)]) dX10_addTurns_31 (by decide) rfl ?_
      refine rhF.iload (pc := 33) dX10_addTurns_33 5 rfl ?_
      refine rhF.iload_n (pc := 35) dX10_addTurns_35 3 rfl ?_
      refine rhF.iconst (pc := 36) (v := 1) dX10_addTurns_36 (by decide) ?_
      refine rhF.iadd (pc := 37) dX10_addTurns_37 ?_
      refine rhF.iushr (pc := 38) dX10_addTurns_38 ?_
      refine rhF.iload_n (pc := 39) dX10_addTurns_39 3 rfl ?_
      refine rhF.iconst (pc := 40) (v := 1) dX10_addTurns_40 (by decide) ?_
      refine rhF.iadd (pc := 41) dX10_addTurns_41 ?_
      refine rhF.ishl (pc := 42) dX10_addTurns_42 ?_
      refine rhF.istore (pc := 43) (L' := [(6, rhI _), (5, rhI _), (0, rhR _), (1, rhI _), (2, rhI _), (3, rhI _), (4, rhI _)]) dX10_addTurns_43 (by decide) rfl ?_
      refine rhF.aload_n (pc := 45) dX10_addTurns_45 2 rfl ?_
      refine rhF.get (pc := 46) (rhR _) dX10_addTurns_46 fl_X10_18 h2 rfl ?_
      refine rhF.iload_n (pc := 49) dX10_addTurns_49 5 rfl ?_
      refine rhF.iload (pc := 50) dX10_addTurns_50 6 rfl ?_
      refine rhF.iadd (pc := 52) dX10_addTurns_52 ?_
      refine rhF.aload_n (pc := 53) dX10_addTurns_53 2 rfl ?_
      refine rhF.get (pc := 54) (rhR _) dX10_addTurns_54 fl_X10_18 h2 rfl ?_
      refine rhF.iload_n (pc := 57) dX10_addTurns_57 3 rfl ?_
      refine rhF.bipush (pc := 58) (v := 64) dX10_addTurns_58 (by decide) ?_
      refine rhF.imul (pc := 60) dX10_addTurns_60 ?_
      refine rhF.iload (pc := 61) dX10_addTurns_61 6 rfl ?_
      refine rhF.iadd (pc := 63) dX10_addTurns_63 ?_
      refine rhF.ck (fun h6 => ?_)
      refine rhF.ck (fun h7 => ?_)
      refine rhF.iald (pc := 64) dX10_addTurns_64 h6 h7 ?_
      refine rhF.aload_n (pc := 65) dX10_addTurns_65 2 rfl ?_
      refine rhF.get (pc := 66) (rhR _) dX10_addTurns_66 fl_X10_9 h2 rfl ?_
      refine rhF.iload_n (pc := 69) dX10_addTurns_69 4 rfl ?_
      refine rhF.ck (fun h8 => ?_)
      refine rhF.ck (fun h9 => ?_)
      refine rhF.iald (pc := 70) dX10_addTurns_70 h8 h9 ?_
      refine rhF.iload (pc := 71) dX10_addTurns_71 1 rfl ?_
      refine rhF.callS (pc := 73) (embc := rhe0I _ _) [rhI _] dX10_addTurns_73 ml_X10_42 ms_J6_bitCount_0f7a4 (c_J6_bitCount_0f7a4 _ _ _ _) (by decide) (by decide) rfl (Nat.le_of_ble_eq_true rfl) (fun r10 _ => ?_)
      refine rhF.imul (pc := 76) dX10_addTurns_76 ?_
      refine rhF.iadd (pc := 77) dX10_addTurns_77 ?_
      refine rhF.aload_n (pc := 78) dX10_addTurns_78 2 rfl ?_
      refine rhF.get (pc := 79) (rhR _) dX10_addTurns_79 fl_X10_15 h2 rfl ?_
      refine rhF.iload (pc := 82) dX10_addTurns_82 0 rfl ?_
      refine rhF.ck (fun h11 => ?_)
      refine rhF.ck (fun h12 => ?_)
      refine rhF.iald (pc := 84) dX10_addTurns_84 h11 h12 ?_
      refine rhF.isub (pc := 85) dX10_addTurns_85 ?_
      refine rhF.ck (fun h13 => ?_)
      refine rhF.iast (pc := 86) dX10_addTurns_86 h6 h13 ?_
      refine rhF.iinc (pc := 87) (L' := [(4, rhI _), (6, rhI _), (5, rhI _), (0, rhR _), (1, rhI _), (2, rhI _), (3, rhI _)]) dX10_addTurns_87 6 rfl rfl (by decide) rfl ?_
      refine rhF.goto (pc := 90) 12 dX10_addTurns_90 (by decide) ?_
      refine rhF.sub [3, 4, 5, 6, 0] rfl ?_
      exact ih _ _ _ _ _ _
    · exact rhF.vret (pc := 93) dX10_addTurns_93 rfl rfl
set_option maxHeartbeats 4000000 in
set_option maxRecDepth 100000 in
theorem b_X10_addTurns {E : rhE} {Γ : rhG} : ∀ (M : rhM) (v0 : Nat) (v1 : Int32) (v2 : Int32), rhF E 5 7 yX10_addTurns cX10_addTurns none Γ (rhe1U Γ) (f_X10_addTurns Γ M v0 v1 v2) 0 [(0, rhR v0), (1, rhI v1), (2, rhI v2)] [] Γ M := by
  intro M v0 v1 v2
  rw [f_X10_addTurns]
  refine rhF.iload_n (pc := 0) dX10_addTurns_0 1 rfl ?_
  refine rhF.iconst (pc := 1) (v := 1) dX10_addTurns_1 (by decide) ?_
  refine rhF.iload_n (pc := 2) dX10_addTurns_2 2 rfl ?_
  refine rhF.ishl (pc := 3) dX10_addTurns_3 ?_
  refine rhF.ior (pc := 4) dX10_addTurns_4 ?_
  refine rhF.bipush (pc := 5) (v := 64) dX10_addTurns_5 (by decide) ?_
  refine rhF.imul (pc := 7) dX10_addTurns_7 ?_
  refine rhF.istore_n (pc := 8) (L' := [(3, rhI _), (0, rhR _), (1, rhI _), (2, rhI _)]) dX10_addTurns_8 (by decide) rfl ?_
  refine rhF.iconst (pc := 9) (v := 0) dX10_addTurns_9 (by decide) ?_
  refine rhF.istore (pc := 10) (L' := [(4, rhI _), (3, rhI _), (0, rhR _), (1, rhI _), (2, rhI _)]) dX10_addTurns_10 (by decide) rfl ?_
  refine rhF.sub [2, 3, 4, 1, 0] rfl ?_
  exact (b_X10_addTurns_12 rhFU) _ _ _ _ _ _
theorem c_X10_addTurns (E : rhE) (Γ : rhG) (M : rhM) (v0 : Nat) (v1 : Int32) (v2 : Int32) : ∀ a, f_X10_addTurns Γ M v0 v1 v2 = some a → rhC E 5 yX10_addTurns cX10_addTurns 7 none [rhR v0, rhI v1, rhI v2] Γ M ((rhe1U Γ) a) := rhF.met (by decide +kernel) (Nat.le_of_ble_eq_true rfl) (b_X10_addTurns M v0 v1 v2)
def f_X10_begin_75 (k114 : rhM → Nat → Int32 → Int32 → Option (rhM)) (Γ : rhG) : Nat → rhM → Nat → Int32 → Int32 → Int32 → Option (rhM)
  | 0, _, _, _, _, _ => none
  | n + 1, M, v0, v2, v3, v4 =>
    if v4 < (1 <<< (v3 &&& 31)) then
      (rhck (Γ.2.2.1 v0 = 11) <|
      rhck (Γ.2.2.1 (M.2.2 v0 3) = 15) <|
      rhck (0 ≤ (v4).toInt ∧ (v4).toInt < (Γ.2.2.2 (M.2.2 v0 3) : Nat)) <|
      rhck (Γ.2.2.1 (M.2.2 v0 2) = 15) <|
      rhck (0 ≤ (v3).toInt ∧ (v3).toInt < (Γ.2.2.2 (M.2.2 v0 2) : Nat)) <|
      rhck (0 ≤ (v4 ||| (1 <<< (v3 &&& 31))).toInt ∧ (v4 ||| (1 <<< (v3 &&& 31))).toInt < (Γ.2.2.2 (M.2.2 v0 3) : Nat)) <|
      let M23 := rhsi M (M.2.2 v0 3) (v4 ||| (1 <<< (v3 &&& 31)) : Int32).toNatClampNeg ((M.1 (M.2.2 v0 3) v4.toNatClampNeg) + (M.1 (M.2.2 v0 2) v3.toNatClampNeg))
      let x24 : Int32 := v4 + 1
      f_X10_begin_75 k114 Γ n M23 v0 v2 v3 x24)
    else
      k114 M v0 v2 v3
def f_X10_begin_114 (k48 : rhM → Nat → Int32 → Int32 → Option (rhM)) (Γ : rhG) (M : rhM) (v0 : Nat) (v2 : Int32) (v3 : Int32) : Option (rhM) :=
  let x25 : Int32 := v3 + 1
  k48 M v0 v2 x25
def f_X10_begin_48 (k120 : rhM → Nat → Option (rhM)) (Γ : rhG) : Nat → rhM → Nat → Int32 → Int32 → Option (rhM)
  | 0, _, _, _, _ => none
  | n + 1, M, v0, v2, v3 =>
    rhck (Γ.2.2.1 v0 = 11) <|
    if v3 < (M.1 v0 0) then
      (rhck (Γ.2.2.1 (M.2.2 v0 2) = 15) <|
      rhck (0 ≤ (v3).toInt ∧ (v3).toInt < (Γ.2.2.2 (M.2.2 v0 2) : Nat)) <|
      let M14 := rhsi M (M.2.2 v0 2) (v3 : Int32).toNatClampNeg v2
      let x15 := v2 * ((M14.1 v0 1) + v3)
      f_X10_begin_75 (f_X10_begin_114 (f_X10_begin_48 k120 Γ n) Γ) Γ rhFU M14 v0 x15 v3 0)
    else
      k120 M v0
def f_X10_begin_133 (k154 : rhM → Nat → Int32 → Option (rhM)) (Γ : rhG) : Nat → rhM → Nat → Int32 → Int32 → Option (rhM)
  | 0, _, _, _, _ => none
  | n + 1, M, v0, v3, v4 =>
    if v4 < (1 <<< (v3 &&& 31)) then
      (rhck (Γ.2.2.1 v0 = 11) <|
      (f_X10_addTurns Γ M v0 v4 v3).bind fun r30 =>
      let x31 : Int32 := v4 + 1
      f_X10_begin_133 k154 Γ n r30 v0 v3 x31)
    else
      k154 M v0 v3
def f_X10_begin_154 (k122 : rhM → Nat → Int32 → Option (rhM)) (Γ : rhG) (M : rhM) (v0 : Nat) (v3 : Int32) : Option (rhM) :=
  let x32 : Int32 := v3 + 1
  k122 M v0 x32
def f_X10_begin_122 (Γ : rhG) : Nat → rhM → Nat → Int32 → Option (rhM)
  | 0, _, _, _ => none
  | n + 1, M, v0, v3 =>
    rhck (Γ.2.2.1 v0 = 11) <|
    if v3 < (M.1 v0 0) then
      (f_X10_begin_133 (f_X10_begin_154 (f_X10_begin_122 Γ n) Γ) Γ rhFU M v0 v3 0)
    else
      some M
def f_X10_begin_120 (Γ : rhG) (M : rhM) (v0 : Nat) : Option (rhM) :=
  f_X10_begin_122 Γ rhFU M v0 0
def f_X10_begin_23 (Γ : rhG) (M : rhM) (v0 : Nat) (v1 : Nat) : Option (rhM) :=
  rhck (Γ.2.2.1 v1 = 10) <|
  let x6 : Int32 := if 6 < (M.1 v1 1) then 6 else M.1 v1 1
  rhck (Γ.2.2.1 v0 = 11) <|
  let M8 := rhsi M v0 0 x6
  let M9 := rhsi M8 v0 1 (M8.1 v1 0)
  f_X10_begin_48 (f_X10_begin_120 Γ) Γ rhFU M9 v0 1 0
def f_X10_begin (Γ : rhG) (M : rhM) (v0 : Nat) (v1 : Nat) : Option (rhM) :=
  rhck (Γ.2.2.1 v0 = 11) <|
  rhck (Γ.2.2.1 v1 = 10) <|
  if (M.1 v0 0) = (M.1 v1 1) then
    (if (M.1 v0 1) = (M.1 v1 0) then
      (some M)
    else
      f_X10_begin_23 Γ M v0 v1)
  else
    f_X10_begin_23 Γ M v0 v1
set_option maxHeartbeats 4000000 in
set_option maxRecDepth 100000 in
theorem b_X10_begin_75 {E : rhE} {Γ : rhG} {k114 : rhM → Nat → Int32 → Int32 → Option (rhM)} (hk114 : ∀ (M : rhM) (v0 : Nat) (v2 : Int32) (v3 : Int32), rhF E 6 5 yX10_begin cX10_begin none Γ (rhe1U Γ) (k114 M v0 v2 v3) 114 [(0, rhR v0), (2, rhI v2), (3, rhI v3)] [] Γ M) : ∀ (n : Nat) (M : rhM) (v0 : Nat) (v2 : Int32) (v3 : Int32) (v4 : Int32), rhF E 6 5 yX10_begin cX10_begin none Γ (rhe1U Γ) (f_X10_begin_75 k114 Γ n M v0 v2 v3 v4) 75 [(0, rhR v0), (2, rhI v2), (3, rhI v3), (4, rhI v4)] [] Γ M := by
  intro n
  induction n with
  | zero => intro M v0 v2 v3 v4; rw [f_X10_begin_75]; exact rhF.nope
  | succ n ih =>
    intro M v0 v2 v3 v4
    rw [f_X10_begin_75]
    refine rhF.iload (pc := 75) dX10_begin_75 3 rfl ?_
    refine rhF.iconst (pc := 77) (v := 1) dX10_begin_77 (by decide) ?_
    refine rhF.iload_n (pc := 78) dX10_begin_78 2 rfl ?_
    refine rhF.ishl (pc := 79) dX10_begin_79 ?_
    refine rhF.icmp_ge (pc := 80) 114 dX10_begin_80 (by decide) (fun h16 => ?_) (fun h16 => ?_)
    · refine rhF.aload_n (pc := 83) dX10_begin_83 0 rfl ?_
      refine rhF.ck (fun h17 => ?_)
      refine rhF.get (pc := 84) (rhR _) dX10_begin_84 fl_X10_15 h17 rfl ?_
      refine rhF.iload (pc := 87) dX10_begin_87 3 rfl ?_
      refine rhF.iconst (pc := 89) (v := 1) dX10_begin_89 (by decide) ?_
      refine rhF.iload_n (pc := 90) dX10_begin_90 2 rfl ?_
      refine rhF.ishl (pc := 91) dX10_begin_91 ?_
      refine rhF.ior (pc := 92) dX10_begin_92 ?_
      refine rhF.aload_n (pc := 93) dX10_begin_93 0 rfl ?_
      refine rhF.get (pc := 94) (rhR _) dX10_begin_94 fl_X10_15 h17 rfl ?_
      refine rhF.iload (pc := 97) dX10_begin_97 3 rfl ?_
      refine rhF.ck (fun h18 => ?_)
      refine rhF.ck (fun h19 => ?_)
      refine rhF.iald (pc := 99) dX10_begin_99 h18 h19 ?_
      refine rhF.aload_n (pc := 100) dX10_begin_100 0 rfl ?_
      refine rhF.get (pc := 101) (rhR _) dX10_begin_101 fl_X10_9 h17 rfl ?_
      refine rhF.iload_n (pc := 104) dX10_begin_104 2 rfl ?_
      refine rhF.ck (fun h20 => ?_)
      refine rhF.ck (fun h21 => ?_)
      refine rhF.iald (pc := 105) dX10_begin_105 h20 h21 ?_
      refine rhF.iadd (pc := 106) dX10_begin_106 ?_
      refine rhF.ck (fun h22 => ?_)
      refine rhF.iast (pc := 107) dX10_begin_107 h18 h22 ?_
      refine rhF.iinc (pc := 108) (L' := [(4, rhI _), (0, rhR _), (2, rhI _), (3, rhI _)]) dX10_begin_108 3 rfl rfl (by decide) rfl ?_
      refine rhF.goto (pc := 111) 75 dX10_begin_111 (by decide) ?_
      refine rhF.sub [1, 2, 3, 0] rfl ?_
      exact ih _ _ _ _ _
    · refine rhF.sub [0, 1, 2] rfl ?_
      exact hk114 _ _ _ _
set_option maxHeartbeats 4000000 in
set_option maxRecDepth 100000 in
theorem b_X10_begin_114 {E : rhE} {Γ : rhG} {k48 : rhM → Nat → Int32 → Int32 → Option (rhM)} (hk48 : ∀ (M : rhM) (v0 : Nat) (v2 : Int32) (v3 : Int32), rhF E 6 5 yX10_begin cX10_begin none Γ (rhe1U Γ) (k48 M v0 v2 v3) 48 [(0, rhR v0), (2, rhI v2), (3, rhI v3)] [] Γ M) : ∀ (M : rhM) (v0 : Nat) (v2 : Int32) (v3 : Int32), rhF E 6 5 yX10_begin cX10_begin none Γ (rhe1U Γ) (f_X10_begin_114 k48 Γ M v0 v2 v3) 114 [(0, rhR v0), (2, rhI v2), (3, rhI v3)] [] Γ M := by
  intro M v0 v2 v3
  rw [f_X10_begin_114]
  refine rhF.iinc (pc := 114) (L' := [(3, rhI _), (0, rhR _), (2, rhI _)]) dX10_begin_114 2 rfl rfl (by decide) rfl ?_
  refine rhF.goto (pc := 117) 48 dX10_begin_117 (by decide) ?_
  refine rhF.sub [1, 2, 0] rfl ?_
  exact hk48 _ _ _ _
set_option maxHeartbeats 4000000 in
set_option maxRecDepth 100000 in
theorem b_X10_begin_48 {E : rhE} {Γ : rhG} {k120 : rhM → Nat → Option (rhM)} (hk120 : ∀ (M : rhM) (v0 : Nat), rhF E 6 5 yX10_begin cX10_begin none Γ (rhe1U Γ) (k120 M v0) 120 [(0, rhR v0)] [] Γ M) : ∀ (n : Nat) (M : rhM) (v0 : Nat) (v2 : Int32) (v3 : Int32), rhF E 6 5 yX10_begin cX10_begin none Γ (rhe1U Γ) (f_X10_begin_48 k120 Γ n M v0 v2 v3) 48 [(0, rhR v0), (2, rhI v2), (3, rhI v3)] [] Γ M := by
  intro n
  induction n with
  | zero => intro M v0 v2 v3; rw [f_X10_begin_48]; exact rhF.nope
  | succ n ih =>
    intro M v0 v2 v3
    rw [f_X10_begin_48]
    refine rhF.iload_n (pc := 48) dX10_begin_48 2 rfl ?_
    refine rhF.aload_n (pc := 49) dX10_begin_49 0 rfl ?_
    refine rhF.ck (fun h10 => ?_)
    refine rhF.get (pc := 50) (rhI _) dX10_begin_50 fl_X10_21 h10 rfl ?_
    refine rhF.icmp_ge (pc := 53) 120 dX10_begin_53 (by decide) (fun h11 => ?_) (fun h11 => ?_)
    · refine rhF.aload_n (pc := 56) dX10_begin_56 0 rfl ?_
      refine rhF.get (pc := 57) (rhR _) dX10_begin_57 fl_X10_9 h10 rfl ?_
      refine rhF.iload_n (pc := 60) dX10_begin_60 2 rfl ?_
      refine rhF.iload_n (pc := 61) dX10_begin_61 1 rfl ?_
      refine rhF.ck (fun h12 => ?_)
      refine rhF.ck (fun h13 => ?_)
      refine rhF.iast (pc := 62) dX10_begin_62 h12 h13 ?_
      refine rhF.iload_n (pc := 63) dX10_begin_63 1 rfl ?_
      refine rhF.aload_n (pc := 64) dX10_begin_64 0 rfl ?_
      refine rhF.get (pc := 65) (rhI _) dX10_begin_65 fl_X10_28 h10 rfl ?_
      refine rhF.iload_n (pc := 68) dX10_begin_68 2 rfl ?_
      refine rhF.iadd (pc := 69) dX10_begin_69 ?_
      refine rhF.imul (pc := 70) dX10_begin_70 ?_
      refine rhF.istore_n (pc := 71) (L' := [(2, rhI _), (0, rhR _), (3, rhI _)]) dX10_begin_71 (by decide) rfl ?_
      refine rhF.iconst (pc := 72) (v := 0) dX10_begin_72 (by decide) ?_
      refine rhF.istore (pc := 73) (L' := [(4, rhI _), (2, rhI _), (0, rhR _), (3, rhI _)]) dX10_begin_73 (by decide) rfl ?_
      refine rhF.sub [2, 1, 3, 0] rfl ?_
      exact (b_X10_begin_75 (b_X10_begin_114 ih) rhFU) _ _ _ _ _
    · refine rhF.sub [0] rfl ?_
      exact hk120 _ _
set_option maxHeartbeats 4000000 in
set_option maxRecDepth 100000 in
theorem b_X10_begin_133 {E : rhE} {Γ : rhG} {k154 : rhM → Nat → Int32 → Option (rhM)} (hk154 : ∀ (M : rhM) (v0 : Nat) (v3 : Int32), rhF E 6 5 yX10_begin cX10_begin none Γ (rhe1U Γ) (k154 M v0 v3) 154 [(0, rhR v0), (3, rhI v3)] [] Γ M) : ∀ (n : Nat) (M : rhM) (v0 : Nat) (v3 : Int32) (v4 : Int32), rhF E 6 5 yX10_begin cX10_begin none Γ (rhe1U Γ) (f_X10_begin_133 k154 Γ n M v0 v3 v4) 133 [(0, rhR v0), (3, rhI v3), (4, rhI v4)] [] Γ M := by
  intro n
  induction n with
  | zero => intro M v0 v3 v4; rw [f_X10_begin_133]; exact rhF.nope
  | succ n ih =>
    intro M v0 v3 v4
    rw [f_X10_begin_133]
    refine rhF.iload (pc := 133) dX10_begin_133 2 rfl ?_
    refine rhF.iconst (pc := 135) (v := 1) dX10_begin_135 (by decide) ?_
    refine rhF.iload_n (pc := 136) dX10_begin_136 1 rfl ?_
    refine rhF.ishl (pc := 137) dX10_begin_137 ?_
    refine rhF.icmp_ge (pc := 138) 154 dX10_begin_138 (by decide) (fun h28 => ?_) (fun h28 => ?_)
    · refine rhF.aload_n (pc := 141) dX10_begin_141 0 rfl ?_
      refine rhF.iload (pc := 142) dX10_begin_142 2 rfl ?_
      refine rhF.iload_n (pc := 144) dX10_begin_144 1 rfl ?_
      refine rhF.ck (fun h29 => ?_)
      refine rhF.callV (pc := 145) (ci := 10) (embc := rhe1U _) [rhI _, rhI _] dX10_begin_145 ml_X10_38 mv_X10_addTurns ⟨_, rfl, rfl⟩ h29 (c_X10_addTurns _ _ _ _ _ _) (by decide) (by decide) rfl (Nat.le_of_ble_eq_true rfl) (fun r30 _ => ?_)
      refine rhF.iinc (pc := 148) (L' := [(4, rhI _), (0, rhR _), (3, rhI _)]) dX10_begin_148 2 rfl rfl (by decide) rfl ?_
      refine rhF.goto (pc := 151) 133 dX10_begin_151 (by decide) ?_
      refine rhF.sub [1, 2, 0] rfl ?_
      exact ih _ _ _ _
    · refine rhF.sub [0, 1] rfl ?_
      exact hk154 _ _ _
set_option maxHeartbeats 4000000 in
set_option maxRecDepth 100000 in
theorem b_X10_begin_154 {E : rhE} {Γ : rhG} {k122 : rhM → Nat → Int32 → Option (rhM)} (hk122 : ∀ (M : rhM) (v0 : Nat) (v3 : Int32), rhF E 6 5 yX10_begin cX10_begin none Γ (rhe1U Γ) (k122 M v0 v3) 122 [(0, rhR v0), (3, rhI v3)] [] Γ M) : ∀ (M : rhM) (v0 : Nat) (v3 : Int32), rhF E 6 5 yX10_begin cX10_begin none Γ (rhe1U Γ) (f_X10_begin_154 k122 Γ M v0 v3) 154 [(0, rhR v0), (3, rhI v3)] [] Γ M := by
  intro M v0 v3
  rw [f_X10_begin_154]
  refine rhF.iinc (pc := 154) (L' := [(3, rhI _), (0, rhR _)]) dX10_begin_154 1 rfl rfl (by decide) rfl ?_
  refine rhF.goto (pc := 157) 122 dX10_begin_157 (by decide) ?_
  refine rhF.sub [1, 0] rfl ?_
  exact hk122 _ _ _
set_option maxHeartbeats 4000000 in
set_option maxRecDepth 100000 in
theorem b_X10_begin_122 {E : rhE} {Γ : rhG} : ∀ (n : Nat) (M : rhM) (v0 : Nat) (v3 : Int32), rhF E 6 5 yX10_begin cX10_begin none Γ (rhe1U Γ) (f_X10_begin_122 Γ n M v0 v3) 122 [(0, rhR v0), (3, rhI v3)] [] Γ M := by
  intro n
  induction n with
  | zero => intro M v0 v3; rw [f_X10_begin_122]; exact rhF.nope
  | succ n ih =>
    intro M v0 v3
    rw [f_X10_begin_122]
    refine rhF.iload_n (pc := 122) dX10_begin_122 1 rfl ?_
    refine rhF.aload_n (pc := 123) dX10_begin_123 0 rfl ?_
    refine rhF.ck (fun h26 => ?_)
    refine rhF.get (pc := 124) (rhI _) dX10_begin_124 fl_X10_21 h26 rfl ?_
    refine rhF.icmp_ge (pc := 127) 160 dX10_begin_127 (by decide) (fun h27 => ?_) (fun h27 => ?_)
    · refine rhF.iconst (pc := 130) (v := 0) dX10_begin_130 (by decide) ?_
      refine rhF.istore (pc := 131) (L' := [(4, rhI _), (0, rhR _), (3, rhI _)]) dX10_begin_131 (by decide) rfl ?_
      refine rhF.sub [1, 2, 0] rfl ?_
      exact (b_X10_begin_133 (b_X10_begin_154 ih) rhFU) _ _ _ _
    · exact rhF.vret (pc := 160) dX10_begin_160 rfl rfl
set_option maxHeartbeats 4000000 in
set_option maxRecDepth 100000 in
theorem b_X10_begin_120 {E : rhE} {Γ : rhG} : ∀ (M : rhM) (v0 : Nat), rhF E 6 5 yX10_begin cX10_begin none Γ (rhe1U Γ) (f_X10_begin_120 Γ M v0) 120 [(0, rhR v0)] [] Γ M := by
  intro M v0
  rw [f_X10_begin_120]
  refine rhF.iconst (pc := 120) (v := 0) dX10_begin_120 (by decide) ?_
  refine rhF.istore_n (pc := 121) (L' := [(3, rhI _), (0, rhR _)]) dX10_begin_121 (by decide) rfl ?_
  refine rhF.sub [1, 0] rfl ?_
  exact (b_X10_begin_122 rhFU) _ _ _
set_option maxHeartbeats 4000000 in
set_option maxRecDepth 100000 in
theorem b_X10_begin_23 {E : rhE} {Γ : rhG} : ∀ (M : rhM) (v0 : Nat) (v1 : Nat), rhF E 6 5 yX10_begin cX10_begin none Γ (rhe1U Γ) (f_X10_begin_23 Γ M v0 v1) 23 [(0, rhR v0), (1, rhR v1)] [] Γ M := by
  intro M v0 v1
  rw [f_X10_begin_23]
  refine rhF.aload_n (pc := 23) dX10_begin_23 0 rfl ?_
  refine rhF.aload_n (pc := 24) dX10_begin_24 1 rfl ?_
  refine rhF.ck (fun h5 => ?_)
  refine rhF.get (pc := 25) (rhI _) dX10_begin_25 fl_X10_25 h5 rfl ?_
  refine rhF.bipush (pc := 28) (v := 6) dX10_begin_28 (by decide) ?_
  refine rhF.mmin (pc := 30) dX10_begin_30 mm_X10_32 (by decide) (Nat.le_of_ble_eq_true rfl) ?_
  refine rhF.ck (fun h7 => ?_)
  refine rhF.puti (pc := 33) dX10_begin_33 fl_X10_21 h7 (fun q hq => by cases hq; exact Or.inl rfl) ⟨rfl, rfl⟩ (fun _ => rfl) ?_
  refine rhF.aload_n (pc := 36) dX10_begin_36 0 rfl ?_
  refine rhF.aload_n (pc := 37) dX10_begin_37 1 rfl ?_
  refine rhF.get (pc := 38) (rhI _) dX10_begin_38 fl_X10_31 h5 rfl ?_
  refine rhF.puti (pc := 41) dX10_begin_41 fl_X10_28 h7 (fun q hq => by cases hq; exact Or.inl rfl) ⟨rfl, rfl⟩ (fun _ => rfl) ?_
  refine rhF.iconst (pc := 44) (v := 1) dX10_begin_44 (by decide) ?_
  refine rhF.istore_n (pc := 45) (L' := [(2, rhI _), (0, rhR _), (1, rhR _)]) dX10_begin_45 (by decide) rfl ?_
  refine rhF.iconst (pc := 46) (v := 0) dX10_begin_46 (by decide) ?_
  refine rhF.istore_n (pc := 47) (L' := [(3, rhI _), (2, rhI _), (0, rhR _), (1, rhR _)]) dX10_begin_47 (by decide) rfl ?_
  refine rhF.sub [2, 1, 0] rfl ?_
  exact (b_X10_begin_48 (b_X10_begin_120) rhFU) _ _ _ _
set_option maxHeartbeats 4000000 in
set_option maxRecDepth 100000 in
theorem b_X10_begin {E : rhE} {Γ : rhG} : ∀ (M : rhM) (v0 : Nat) (v1 : Nat), rhF E 6 5 yX10_begin cX10_begin none Γ (rhe1U Γ) (f_X10_begin Γ M v0 v1) 0 [(0, rhR v0), (1, rhR v1)] [] Γ M := by
  intro M v0 v1
  rw [f_X10_begin]
  refine rhF.aload_n (pc := 0) dX10_begin_0 0 rfl ?_
  refine rhF.ck (fun h1 => ?_)
  refine rhF.get (pc := 1) (rhI _) dX10_begin_1 fl_X10_21 h1 rfl ?_
  refine rhF.aload_n (pc := 4) dX10_begin_4 1 rfl ?_
  refine rhF.ck (fun h2 => ?_)
  refine rhF.get (pc := 5) (rhI _) dX10_begin_5 fl_X10_25 h2 rfl ?_
  refine rhF.icmp_ne (pc := 8) 23 dX10_begin_8 (by decide) (fun h3 => ?_) (fun h3 => ?_)
  · refine rhF.aload_n (pc := 11) dX10_begin_11 0 rfl ?_
    refine rhF.get (pc := 12) (rhI _) dX10_begin_12 fl_X10_28 h1 rfl ?_
    refine rhF.aload_n (pc := 15) dX10_begin_15 1 rfl ?_
    refine rhF.get (pc := 16) (rhI _) dX10_begin_16 fl_X10_31 h2 rfl ?_
    refine rhF.icmp_ne (pc := 19) 23 dX10_begin_19 (by decide) (fun h4 => ?_) (fun h4 => ?_)
    · exact rhF.vret (pc := 22) dX10_begin_22 rfl rfl
    · exact (b_X10_begin_23) _ _ _
  · exact (b_X10_begin_23) _ _ _
theorem c_X10_begin (E : rhE) (Γ : rhG) (M : rhM) (v0 : Nat) (v1 : Nat) : ∀ a, f_X10_begin Γ M v0 v1 = some a → rhC E 6 yX10_begin cX10_begin 5 none [rhR v0, rhR v1] Γ M ((rhe1U Γ) a) := rhF.met (by decide +kernel) (Nat.le_of_ble_eq_true rfl) (b_X10_begin M v0 v1)
def f_X7_digitOf (Γ : rhG) (M : rhM) (v0 : Int64) (v2 : Int32) : Option (Int32) :=
  some ((Int64.toInt32 (rhul v0 (4 * v2))) &&& 15)
set_option maxHeartbeats 4000000 in
set_option maxRecDepth 100000 in
theorem b_X7_digitOf {E : rhE} {Γ : rhG} {M : rhM} : ∀ (v0 : Int64) (v2 : Int32), rhF E 1 3 yX7_digitOf cX7_digitOf (some .int) Γ (rhe0I Γ M) (f_X7_digitOf Γ M v0 v2) 0 [(0, rhJ v0), (2, rhI v2)] [] Γ M := by
  intro v0 v2
  rw [f_X7_digitOf]
  refine rhF.lload_n (pc := 0) dX7_digitOf_0 0 rfl ?_
  refine rhF.iconst (pc := 1) (v := 4) dX7_digitOf_1 (by decide) ?_
  refine rhF.iload_n (pc := 2) dX7_digitOf_2 1 rfl ?_
  refine rhF.imul (pc := 3) dX7_digitOf_3 ?_
  refine rhF.lushr (pc := 4) dX7_digitOf_4 ?_
  refine rhF.l2i (pc := 5) dX7_digitOf_5 ?_
  refine rhF.bipush (pc := 6) (v := 15) dX7_digitOf_6 (by decide) ?_
  refine rhF.iand (pc := 8) dX7_digitOf_8 ?_
  exact rhF.zret (pc := 9) dX7_digitOf_9 rfl rfl rfl
theorem c_X7_digitOf (E : rhE) (Γ : rhG) (M : rhM) (v0 : Int64) (v2 : Int32) : ∀ a, f_X7_digitOf Γ M v0 v2 = some a → rhC E 1 yX7_digitOf cX7_digitOf 3 (some .int) [rhJ v0, rhI v2] Γ M ((rhe0I Γ M) a) := rhF.met (by decide +kernel) (Nat.le_of_ble_eq_true rfl) (b_X7_digitOf v0 v2)
def f_X10_numberOf_89 (k11 : Nat → Int64 → Int32 → Int32 → Int32 → Int32 → Option (Int32)) (Γ : rhG) (M : rhM) (v0 : Nat) (v1 : Int64) (v3 : Int32) (v4 : Int32) (v5 : Int32) (v6 : Int32) : Option (Int32) :=
  let x11 : Int32 := v6 + 1
  k11 v0 v1 v3 v4 v5 x11
def f_X10_numberOf_11 (Γ : rhG) (M : rhM) : Nat → Nat → Int64 → Int32 → Int32 → Int32 → Int32 → Option (Int32)
  | 0, _, _, _, _, _, _ => none
  | n + 1, v0, v1, v3, v4, v5, v6 =>
    rhck (Γ.2.2.1 v0 = 11) <|
    if v6 < (((M.1 v0 0) + (M.1 v0 1)) - 1) then
      ((f_X7_digitOf Γ M v1 v6).bind fun r3 =>
      if r3 < (M.1 v0 0) then
        (let x5 := v5 &&& ((1 <<< (r3 &&& 31)) - 1)
        rhck (Γ.2.2.1 (M.2.2 v0 2) = 15) <|
        rhck (0 ≤ (r3).toInt ∧ (r3).toInt < (Γ.2.2.2 (M.2.2 v0 2) : Nat)) <|
        (f_J6_bitCount_0f7a4 Γ M x5).bind fun r8 =>
        let x9 := v3 + ((M.1 (M.2.2 v0 2) r3.toNatClampNeg) * (v4 + r8))
        let x10 := v5 ||| (1 <<< (r3 &&& 31))
        f_X10_numberOf_89 (f_X10_numberOf_11 Γ M n) Γ M v0 v1 x9 v4 x10 v6)
      else
        let x12 : Int32 := v4 + 1
        f_X10_numberOf_89 (f_X10_numberOf_11 Γ M n) Γ M v0 v1 v3 x12 v5 v6)
    else
      some v3
def f_X10_numberOf (Γ : rhG) (M : rhM) (v0 : Nat) (v1 : Int64) : Option (Int32) :=
  f_X10_numberOf_11 Γ M rhFU v0 v1 0 0 0 0
set_option maxHeartbeats 4000000 in
set_option maxRecDepth 100000 in
theorem b_X10_numberOf_89 {E : rhE} {Γ : rhG} {M : rhM} {k11 : Nat → Int64 → Int32 → Int32 → Int32 → Int32 → Option (Int32)} (hk11 : ∀ (v0 : Nat) (v1 : Int64) (v3 : Int32) (v4 : Int32) (v5 : Int32) (v6 : Int32), rhF E 5 9 yX10_numberOf cX10_numberOf (some .int) Γ (rhe0I Γ M) (k11 v0 v1 v3 v4 v5 v6) 11 [(0, rhR v0), (1, rhJ v1), (3, rhI v3), (4, rhI v4), (5, rhI v5), (6, rhI v6)] [] Γ M) : ∀ (v0 : Nat) (v1 : Int64) (v3 : Int32) (v4 : Int32) (v5 : Int32) (v6 : Int32), rhF E 5 9 yX10_numberOf cX10_numberOf (some .int) Γ (rhe0I Γ M) (f_X10_numberOf_89 k11 Γ M v0 v1 v3 v4 v5 v6) 89 [(0, rhR v0), (1, rhJ v1), (3, rhI v3), (4, rhI v4), (5, rhI v5), (6, rhI v6)] [] Γ M := by
  intro v0 v1 v3 v4 v5 v6
  rw [f_X10_numberOf_89]
  refine rhF.iinc (pc := 89) (L' := [(6, rhI _), (0, rhR _), (1, rhJ _), (3, rhI _), (4, rhI _), (5, rhI _)]) dX10_numberOf_89 5 rfl rfl (by decide) rfl ?_
  refine rhF.goto (pc := 92) 11 dX10_numberOf_92 (by decide) ?_
  refine rhF.sub [1, 2, 3, 4, 5, 0] rfl ?_
  exact hk11 _ _ _ _ _ _
set_option maxHeartbeats 4000000 in
set_option maxRecDepth 100000 in
theorem b_X10_numberOf_11 {E : rhE} {Γ : rhG} {M : rhM} : ∀ (n : Nat) (v0 : Nat) (v1 : Int64) (v3 : Int32) (v4 : Int32) (v5 : Int32) (v6 : Int32), rhF E 5 9 yX10_numberOf cX10_numberOf (some .int) Γ (rhe0I Γ M) (f_X10_numberOf_11 Γ M n v0 v1 v3 v4 v5 v6) 11 [(0, rhR v0), (1, rhJ v1), (3, rhI v3), (4, rhI v4), (5, rhI v5), (6, rhI v6)] [] Γ M := by
  intro n
  induction n with
  | zero => intro v0 v1 v3 v4 v5 v6; rw [f_X10_numberOf_11]; exact rhF.nope
  | succ n ih =>
    intro v0 v1 v3 v4 v5 v6
    rw [f_X10_numberOf_11]
    refine rhF.iload (pc := 11) dX10_numberOf_11 5 rfl ?_
    refine rhF.aload_n (pc := 13) dX10_numberOf_13 0 rfl ?_
    refine rhF.ck (fun h1 => ?_)
    refine rhF.get (pc := 14) (rhI _) dX10_numberOf_14 fl_X10_21 h1 rfl ?_
    refine rhF.aload_n (pc := 17) dX10_numberOf_17 0 rfl ?_
    refine rhF.get (pc := 18) (rhI _) dX10_numberOf_18 fl_X10_28 h1 rfl ?_
    refine rhF.iadd (pc := 21) dX10_numberOf_21 ?_
    refine rhF.iconst (pc := 22) (v := 1) dX10_numberOf_22 (by decide) ?_
    refine rhF.isub (pc := 23) dX10_numberOf_23 ?_
    refine rhF.icmp_ge (pc := 24) 95 dX10_numberOf_24 (by decide) (fun h2 => ?_) (fun h2 => ?_)
    · refine rhF.lload_n (pc := 27) dX10_numberOf_27 1 rfl ?_
      refine rhF.iload (pc := 28) dX10_numberOf_28 5 rfl ?_
      refine rhF.callS (pc := 30) (embc := rhe0I _ _) [rhJ _, rhI _] dX10_numberOf_30 ml_X10_48 ms_X7_digitOf (c_X7_digitOf _ _ _ _ _) (by decide) (by decide) rfl (Nat.le_of_ble_eq_true rfl) (fun r3 _ => ?_)
      refine rhF.istore (pc := 33) (L' := [(7, rhI _), (0, rhR _), (1, rhJ _), (3, rhI _), (4, rhI _), (5, rhI _), (6, rhI _)]) dX10_numberOf_33 (by decide) rfl ?_
      refine rhF.iload (pc := 35) dX10_numberOf_35 0 rfl ?_
      refine rhF.aload_n (pc := 37) dX10_numberOf_37 1 rfl ?_
      refine rhF.get (pc := 38) (rhI _) dX10_numberOf_38 fl_X10_21 h1 rfl ?_
      refine rhF.icmp_ge (pc := 41) 86 dX10_numberOf_41 (by decide) (fun h4 => ?_) (fun h4 => ?_)
      · refine rhF.iload (pc := 44) dX10_numberOf_44 5 rfl ?_
        refine rhF.iconst (pc := 46) (v := 1) dX10_numberOf_46 (by decide) ?_
        refine rhF.iload (pc := 47) dX10_numberOf_47 0 rfl ?_
        refine rhF.ishl (pc := 49) dX10_numberOf_49 ?_
        refine rhF.iconst (pc := 50) (v := 1) dX10_numberOf_50 (by decide) ?_
        refine rhF.isub (pc := 51) dX10_numberOf_51 ?_
        refine rhF.iand (pc := 52) dX10_numberOf_52 ?_
        refine rhF.istore (pc := 53) (L' := [(8, rhI _), (7, rhI _), (0, rhR _), (1, rhJ _), (3, rhI _), (4, rhI _), (5, rhI _), (6, rhI _)]) dX10_numberOf_53 (by decide) rfl ?_
        refine rhF.iload_n (pc := 55) dX10_numberOf_55 4 rfl ?_
        refine rhF.aload_n (pc := 56) dX10_numberOf_56 2 rfl ?_
        refine rhF.get (pc := 57) (rhR _) dX10_numberOf_57 fl_X10_9 h1 rfl ?_
        refine rhF.iload (pc := 60) dX10_numberOf_60 1 rfl ?_
        refine rhF.ck (fun h6 => ?_)
        refine rhF.ck (fun h7 => ?_)
        refine rhF.iald (pc := 62) dX10_numberOf_62 h6 h7 ?_
        refine rhF.iload (pc := 63) dX10_numberOf_63 5 rfl ?_
        refine rhF.iload (pc := 65) dX10_numberOf_65 0 rfl ?_
        refine rhF.callS (pc := 67) (embc := rhe0I _ _) [rhI _] dX10_numberOf_67 ml_X10_42 ms_J6_bitCount_0f7a4 (c_J6_bitCount_0f7a4 _ _ _ _) (by decide) (by decide) rfl (Nat.le_of_ble_eq_true rfl) (fun r8 _ => ?_)
        refine rhF.iadd (pc := 70) dX10_numberOf_70 ?_
        refine rhF.imul (pc := 71) dX10_numberOf_71 ?_
        refine rhF.iadd (pc := 72) dX10_numberOf_72 ?_
        refine rhF.istore_n (pc := 73) (L' := [(3, rhI _), (8, rhI _), (7, rhI _), (0, rhR _), (1, rhJ _), (4, rhI _), (5, rhI _), (6, rhI _)]) dX10_numberOf_73 (by decide) rfl ?_
        refine rhF.iload (pc := 74) dX10_numberOf_74 6 rfl ?_
        refine rhF.iconst (pc := 76) (v := 1) dX10_numberOf_76 (by decide) ?_
        refine rhF.iload (pc := 77) dX10_numberOf_77 2 rfl ?_
        refine rhF.ishl (pc := 79) dX10_numberOf_79 ?_
        refine rhF.ior (pc := 80) dX10_numberOf_80 ?_
        refine rhF.istore (pc := 81) (L' := [(5, rhI _), (3, rhI _), (8, rhI _), (7, rhI _), (0, rhR _), (1, rhJ _), (4, rhI _), (6, rhI _)]) dX10_numberOf_81 (by decide) rfl ?_
        refine rhF.goto (pc := 83) 89 dX10_numberOf_83 (by decide) ?_
        refine rhF.sub [4, 5, 1, 6, 0, 7] rfl ?_
        exact (b_X10_numberOf_89 ih) _ _ _ _ _ _
      · refine rhF.iinc (pc := 86) (L' := [(4, rhI _), (7, rhI _), (0, rhR _), (1, rhJ _), (3, rhI _), (5, rhI _), (6, rhI _)]) dX10_numberOf_86 4 rfl rfl (by decide) rfl ?_
        refine rhF.sub [2, 3, 4, 0, 5, 6] rfl ?_
        exact (b_X10_numberOf_89 ih) _ _ _ _ _ _
    · refine rhF.iload_n (pc := 95) dX10_numberOf_95 2 rfl ?_
      exact rhF.zret (pc := 96) dX10_numberOf_96 rfl rfl rfl
set_option maxHeartbeats 4000000 in
set_option maxRecDepth 100000 in
theorem b_X10_numberOf {E : rhE} {Γ : rhG} {M : rhM} : ∀ (v0 : Nat) (v1 : Int64), rhF E 5 9 yX10_numberOf cX10_numberOf (some .int) Γ (rhe0I Γ M) (f_X10_numberOf Γ M v0 v1) 0 [(0, rhR v0), (1, rhJ v1)] [] Γ M := by
  intro v0 v1
  rw [f_X10_numberOf]
  refine rhF.iconst (pc := 0) (v := 0) dX10_numberOf_0 (by decide) ?_
  refine rhF.istore_n (pc := 1) (L' := [(3, rhI _), (0, rhR _), (1, rhJ _)]) dX10_numberOf_1 (by decide) rfl ?_
  refine rhF.iconst (pc := 2) (v := 0) dX10_numberOf_2 (by decide) ?_
  refine rhF.istore (pc := 3) (L' := [(4, rhI _), (3, rhI _), (0, rhR _), (1, rhJ _)]) dX10_numberOf_3 (by decide) rfl ?_
  refine rhF.iconst (pc := 5) (v := 0) dX10_numberOf_5 (by decide) ?_
  refine rhF.istore (pc := 6) (L' := [(5, rhI _), (4, rhI _), (3, rhI _), (0, rhR _), (1, rhJ _)]) dX10_numberOf_6 (by decide) rfl ?_
  refine rhF.iconst (pc := 8) (v := 0) dX10_numberOf_8 (by decide) ?_
  refine rhF.istore (pc := 9) (L' := [(6, rhI _), (5, rhI _), (4, rhI _), (3, rhI _), (0, rhR _), (1, rhJ _)]) dX10_numberOf_9 (by decide) rfl ?_
  refine rhF.sub [4, 5, 3, 2, 1, 0] rfl ?_
  exact (b_X10_numberOf_11 rhFU) _ _ _ _ _ _
theorem c_X10_numberOf (E : rhE) (Γ : rhG) (M : rhM) (v0 : Nat) (v1 : Int64) : ∀ a, f_X10_numberOf Γ M v0 v1 = some a → rhC E 5 yX10_numberOf cX10_numberOf 9 (some .int) [rhR v0, rhJ v1] Γ M ((rhe0I Γ M) a) := rhF.met (by decide +kernel) (Nat.le_of_ble_eq_true rfl) (b_X10_numberOf v0 v1)
def f_X9_states_4 (Γ : rhG) (M : rhM) : Nat → Nat → Int32 → Int32 → Option (Int32)
  | 0, _, _, _ => none
  | n + 1, v0, v1, v2 =>
    rhck (Γ.2.2.1 v0 = 10) <|
    if v2 < (M.1 v0 1) then
      (let x3 := v1 * ((M.1 v0 0) + v2)
      let x4 : Int32 := v2 + 1
      f_X9_states_4 Γ M n v0 x3 x4)
    else
      some v1
def f_X9_states (Γ : rhG) (M : rhM) (v0 : Nat) : Option (Int32) :=
  f_X9_states_4 Γ M rhFU v0 1 0
set_option maxHeartbeats 4000000 in
set_option maxRecDepth 100000 in
theorem b_X9_states_4 {E : rhE} {Γ : rhG} {M : rhM} : ∀ (n : Nat) (v0 : Nat) (v1 : Int32) (v2 : Int32), rhF E 1 3 yX9_states cX9_states (some .int) Γ (rhe0I Γ M) (f_X9_states_4 Γ M n v0 v1 v2) 4 [(0, rhR v0), (1, rhI v1), (2, rhI v2)] [] Γ M := by
  intro n
  induction n with
  | zero => intro v0 v1 v2; rw [f_X9_states_4]; exact rhF.nope
  | succ n ih =>
    intro v0 v1 v2
    rw [f_X9_states_4]
    refine rhF.iload_n (pc := 4) dX9_states_4 2 rfl ?_
    refine rhF.aload_n (pc := 5) dX9_states_5 0 rfl ?_
    refine rhF.ck (fun h1 => ?_)
    refine rhF.get (pc := 6) (rhI _) dX9_states_6 fl_X9_42 h1 rfl ?_
    refine rhF.icmp_ge (pc := 9) 27 dX9_states_9 (by decide) (fun h2 => ?_) (fun h2 => ?_)
    · refine rhF.iload_n (pc := 12) dX9_states_12 1 rfl ?_
      refine rhF.aload_n (pc := 13) dX9_states_13 0 rfl ?_
      refine rhF.get (pc := 14) (rhI _) dX9_states_14 fl_X9_38 h1 rfl ?_
      refine rhF.iload_n (pc := 17) dX9_states_17 2 rfl ?_
      refine rhF.iadd (pc := 18) dX9_states_18 ?_
      refine rhF.imul (pc := 19) dX9_states_19 ?_
      refine rhF.istore_n (pc := 20) (L' := [(1, rhI _), (0, rhR _), (2, rhI _)]) dX9_states_20 (by decide) rfl ?_
      refine rhF.iinc (pc := 21) (L' := [(2, rhI _), (1, rhI _), (0, rhR _)]) dX9_states_21 2 rfl rfl (by decide) rfl ?_
      refine rhF.goto (pc := 24) 4 dX9_states_24 (by decide) ?_
      refine rhF.sub [2, 1, 0] rfl ?_
      exact ih _ _ _
    · refine rhF.iload_n (pc := 27) dX9_states_27 1 rfl ?_
      exact rhF.zret (pc := 28) dX9_states_28 rfl rfl rfl
set_option maxHeartbeats 4000000 in
set_option maxRecDepth 100000 in
theorem b_X9_states {E : rhE} {Γ : rhG} {M : rhM} : ∀ (v0 : Nat), rhF E 1 3 yX9_states cX9_states (some .int) Γ (rhe0I Γ M) (f_X9_states Γ M v0) 0 [(0, rhR v0)] [] Γ M := by
  intro v0
  rw [f_X9_states]
  refine rhF.iconst (pc := 0) (v := 1) dX9_states_0 (by decide) ?_
  refine rhF.istore_n (pc := 1) (L' := [(1, rhI _), (0, rhR _)]) dX9_states_1 (by decide) rfl ?_
  refine rhF.iconst (pc := 2) (v := 0) dX9_states_2 (by decide) ?_
  refine rhF.istore_n (pc := 3) (L' := [(2, rhI _), (1, rhI _), (0, rhR _)]) dX9_states_3 (by decide) rfl ?_
  refine rhF.sub [2, 1, 0] rfl ?_
  exact (b_X9_states_4 rhFU) _ _ _
theorem c_X9_states (E : rhE) (Γ : rhG) (M : rhM) (v0 : Nat) : ∀ a, f_X9_states Γ M v0 = some a → rhC E 1 yX9_states cX9_states 3 (some .int) [rhR v0] Γ M ((rhe0I Γ M) a) := rhF.met (by decide +kernel) (Nat.le_of_ble_eq_true rfl) (b_X9_states v0)
def f_X5_begin (Γ : rhG) (M : rhM) (v0 : Nat) (v1 : Nat) (v2 : Int64) : Option (Int32 × rhM) :=
  rhck (Γ.2.2.1 v0 = 6) <|
  let M2 := rhsr M v0 5 v1
  let M3 := rhsi M2 v0 10 ((-1))
  let M4 := rhsi M3 v0 0 0
  rhck (Γ.2.2.1 (M2.2.2 v0 2) = 11) <|
  (f_X10_begin Γ M4 (M2.2.2 v0 2) (M2.2.2 v0 5)).bind fun r6 =>
  rhck (Γ.2.2.1 (r6.2.2 v0 3) = 3) <|
  (f_X2_begin Γ r6 (r6.2.2 v0 3) (r6.2.2 v0 5)).bind fun r8 =>
  rhck (Γ.2.2.1 (r8.2.2 v0 5) = 10) <|
  (f_X9_states Γ r8 (r8.2.2 v0 5)).bind fun r10 =>
  rhck (Γ.2.2.1 (r8.2.2 v0 1) = 1) <|
  (f_X0_begin Γ r8 (r8.2.2 v0 1) r10).bind fun r12 =>
  rhck (Γ.2.2.1 (r12.2.2 v0 2) = 11) <|
  (f_X10_numberOf Γ r12 (r12.2.2 v0 2) v2).bind fun r14 =>
  rhck (Γ.2.2.1 (r12.2.2 v0 1) = 1) <|
  (f_X0_isNew Γ r12 (r12.2.2 v0 1) r14).bind fun r16 =>
  if r16 = 0 then
    (some (((-1), r12)))
  else
    (f_X0_lead Γ r12 (r12.2.2 v0 1) r14 r14 (0 : Int32)).bind fun r18 =>
    rhck (Γ.2.2.1 (r18.2.2 v0 1) = 1) <|
    (f_X0_put Γ r18 (r18.2.2 v0 1) r14 (0 : Int32)).bind fun r20 =>
    some ((r14, r20))
set_option maxHeartbeats 4000000 in
set_option maxRecDepth 100000 in
theorem b_X5_begin {E : rhE} {Γ : rhG} : ∀ (M : rhM) (v0 : Nat) (v1 : Nat) (v2 : Int64), rhF E 8 5 yX5_begin cX5_begin (some .int) Γ (rhe1I Γ) (f_X5_begin Γ M v0 v1 v2) 0 [(0, rhR v0), (1, rhR v1), (2, rhJ v2)] [] Γ M := by
  intro M v0 v1 v2
  rw [f_X5_begin]
  refine rhF.aload_n (pc := 0) dX5_begin_0 0 rfl ?_
  refine rhF.aload_n (pc := 1) dX5_begin_1 1 rfl ?_
  refine rhF.ck (fun h1 => ?_)
  refine rhF.putr (pc := 2) dX5_begin_2 fl_X5_77 h1 (fun q hq => by cases hq; exact Or.inl rfl) (Or.inl ⟨_, rfl⟩) (fun _ => rfl) ?_
  refine rhF.aload_n (pc := 5) dX5_begin_5 0 rfl ?_
  refine rhF.iconst (pc := 6) (v := (-1)) dX5_begin_6 (by decide) ?_
  refine rhF.puti (pc := 7) dX5_begin_7 fl_X5_81 h1 (fun q hq => by cases hq; exact Or.inl rfl) ⟨rfl, rfl⟩ (fun _ => rfl) ?_
  refine rhF.aload_n (pc := 10) dX5_begin_10 0 rfl ?_
  refine rhF.iconst (pc := 11) (v := 0) dX5_begin_11 (by decide) ?_
  refine rhF.puti (pc := 12) dX5_begin_12 fl_X5_84 h1 (fun q hq => by cases hq; exact Or.inl rfl) ⟨rfl, rfl⟩ (fun _ => rfl) ?_
  refine rhF.aload_n (pc := 15) dX5_begin_15 0 rfl ?_
  refine rhF.get (pc := 16) (rhR _) dX5_begin_16 fl_X5_23 h1 rfl ?_
  refine rhF.aload_n (pc := 19) dX5_begin_19 0 rfl ?_
  refine rhF.get (pc := 20) (rhR _) dX5_begin_20 fl_X5_77 h1 rfl ?_
  refine rhF.ck (fun h5 => ?_)
  refine rhF.callV (pc := 23) (ci := 10) (embc := rhe1U _) [rhR _] dX5_begin_23 ml_X5_87 mv_X10_begin ⟨_, rfl, rfl⟩ h5 (c_X10_begin _ _ _ _ _) (by decide) (by decide) rfl (Nat.le_of_ble_eq_true rfl) (fun r6 _ => ?_)
  refine rhF.aload_n (pc := 26) dX5_begin_26 0 rfl ?_
  refine rhF.get (pc := 27) (rhR _) dX5_begin_27 fl_X5_34 h1 rfl ?_
  refine rhF.aload_n (pc := 30) dX5_begin_30 0 rfl ?_
  refine rhF.get (pc := 31) (rhR _) dX5_begin_31 fl_X5_77 h1 rfl ?_
  refine rhF.ck (fun h7 => ?_)
  refine rhF.callV (pc := 34) (ci := 2) (embc := rhe1U _) [rhR _] dX5_begin_34 ml_X5_91 mv_X2_begin ⟨_, rfl, rfl⟩ h7 (c_X2_begin _ _ _ _ _) (by decide) (by decide) rfl (Nat.le_of_ble_eq_true rfl) (fun r8 _ => ?_)
  refine rhF.aload_n (pc := 37) dX5_begin_37 0 rfl ?_
  refine rhF.get (pc := 38) (rhR _) dX5_begin_38 fl_X5_14 h1 rfl ?_
  refine rhF.aload_n (pc := 41) dX5_begin_41 0 rfl ?_
  refine rhF.get (pc := 42) (rhR _) dX5_begin_42 fl_X5_77 h1 rfl ?_
  refine rhF.ck (fun h9 => ?_)
  refine rhF.callV (pc := 45) (ci := 9) (embc := rhe0I _ _) [] dX5_begin_45 ml_X5_92 mv_X9_states ⟨_, rfl, rfl⟩ h9 (c_X9_states _ _ _ _) (by decide) (by decide) rfl (Nat.le_of_ble_eq_true rfl) (fun r10 _ => ?_)
  refine rhF.ck (fun h11 => ?_)
  refine rhF.callV (pc := 48) (ci := 0) (embc := rhe1U _) [rhI _] dX5_begin_48 ml_X5_97 mv_X0_begin ⟨_, rfl, rfl⟩ h11 (c_X0_begin _ _ _ _ _) (by decide) (by decide) rfl (Nat.le_of_ble_eq_true rfl) (fun r12 _ => ?_)
  refine rhF.aload_n (pc := 51) dX5_begin_51 0 rfl ?_
  refine rhF.get (pc := 52) (rhR _) dX5_begin_52 fl_X5_23 h1 rfl ?_
  refine rhF.lload_n (pc := 55) dX5_begin_55 2 rfl ?_
  refine rhF.ck (fun h13 => ?_)
  refine rhF.callV (pc := 56) (ci := 10) (embc := rhe0I _ _) [rhJ _] dX5_begin_56 ml_X5_99 mv_X10_numberOf ⟨_, rfl, rfl⟩ h13 (c_X10_numberOf _ _ _ _ _) (by decide) (by decide) rfl (Nat.le_of_ble_eq_true rfl) (fun r14 _ => ?_)
  refine rhF.istore (pc := 59) (L' := [(4, rhI _), (0, rhR _), (1, rhR _), (2, rhJ _)]) dX5_begin_59 (by decide) rfl ?_
  refine rhF.aload_n (pc := 61) dX5_begin_61 1 rfl ?_
  refine rhF.get (pc := 62) (rhR _) dX5_begin_62 fl_X5_14 h1 rfl ?_
  refine rhF.iload (pc := 65) dX5_begin_65 0 rfl ?_
  refine rhF.ck (fun h15 => ?_)
  refine rhF.callV (pc := 67) (ci := 0) (embc := rhe0I _ _) [rhI _] dX5_begin_67 ml_X5_103 mv_X0_isNew ⟨_, rfl, rfl⟩ h15 (c_X0_isNew _ _ _ _ _) (by decide) (by decide) rfl (Nat.le_of_ble_eq_true rfl) (fun r16 _ => ?_)
  refine rhF.if_ne (pc := 70) 75 dX5_begin_70 (by decide) (fun h17 => ?_) (fun h17 => ?_)
  · refine rhF.iconst (pc := 73) (v := (-1)) dX5_begin_73 (by decide) ?_
    exact rhF.zret (pc := 74) dX5_begin_74 rfl rfl rfl
  · refine rhF.aload_n (pc := 75) dX5_begin_75 1 rfl ?_
    refine rhF.get (pc := 76) (rhR _) dX5_begin_76 fl_X5_14 h1 rfl ?_
    refine rhF.iload (pc := 79) dX5_begin_79 0 rfl ?_
    refine rhF.iload (pc := 81) dX5_begin_81 0 rfl ?_
    refine rhF.iconst (pc := 83) (v := 0) dX5_begin_83 (by decide) ?_
    refine rhF.callV (pc := 84) (ci := 0) (embc := rhe1U _) [rhI _, rhI _, rhI _] dX5_begin_84 ml_X5_107 mv_X0_lead ⟨_, rfl, rfl⟩ h15 (c_X0_lead _ _ _ _ _ _ _) (by decide) (by decide) rfl (Nat.le_of_ble_eq_true rfl) (fun r18 _ => ?_)
    refine rhF.aload_n (pc := 87) dX5_begin_87 1 rfl ?_
    refine rhF.get (pc := 88) (rhR _) dX5_begin_88 fl_X5_14 h1 rfl ?_
    refine rhF.iload (pc := 91) dX5_begin_91 0 rfl ?_
    refine rhF.iconst (pc := 93) (v := 0) dX5_begin_93 (by decide) ?_
    refine rhF.ck (fun h19 => ?_)
    refine rhF.callV (pc := 94) (ci := 0) (embc := rhe1U _) [rhI _, rhI _] dX5_begin_94 ml_X5_111 mv_X0_put ⟨_, rfl, rfl⟩ h19 (c_X0_put _ _ _ _ _ _) (by decide) (by decide) rfl (Nat.le_of_ble_eq_true rfl) (fun r20 _ => ?_)
    refine rhF.iload (pc := 97) dX5_begin_97 0 rfl ?_
    exact rhF.zret (pc := 99) dX5_begin_99 rfl rfl rfl
theorem c_X5_begin (E : rhE) (Γ : rhG) (M : rhM) (v0 : Nat) (v1 : Nat) (v2 : Int64) : ∀ a, f_X5_begin Γ M v0 v1 v2 = some a → rhC E 8 yX5_begin cX5_begin 5 (some .int) [rhR v0, rhR v1, rhJ v2] Γ M ((rhe1I Γ) a) := rhF.met (by decide +kernel) (Nat.le_of_ble_eq_true rfl) (b_X5_begin M v0 v1 v2)
def f_X10_wordOf_5 (k33 : Nat → Int32 → Int64 → Option (Int64)) (Γ : rhG) (M : rhM) : Nat → Nat → Int32 → Int64 → Int32 → Option (Int64)
  | 0, _, _, _, _ => none
  | n + 1, v0, v1, v2, v4 =>
    rhck (Γ.2.2.1 v0 = 11) <|
    if v4 < ((M.1 v0 1) - 1) then
      (let x4 := v2 ||| (rhsh ((8 : Int64)) (4 * v4))
      let x5 : Int32 := v4 + 1
      f_X10_wordOf_5 k33 Γ M n v0 v1 x4 x5)
    else
      k33 v0 v1 v2
def f_X10_wordOf_39 (Γ : rhG) (M : rhM) : Nat → Nat → Int64 → Int32 → Int32 → Option (Int64)
  | 0, _, _, _, _ => none
  | n + 1, v0, v2, v4, v5 =>
    rhck (Γ.2.2.1 v0 = 11) <|
    if v5 < (M.1 v0 0) then
      (let x8 : Int32 := if ((M.1 v0 1) + v5) < 1 then 1 else (M.1 v0 1) + v5
      rhck (¬ x8 = 0) <|
      let x10 := 4 * (v4 - v4 / x8 * x8)
      let x11 := v2 &&& ((rhsh ((1 : Int64)) x10) - ((1 : Int64)))
      let x12 := ((rhsh (v2 ^^^ x11) 4) ||| (rhsh (Int32.toInt64 v5) x10)) ||| x11
      rhck (¬ x8 = 0) <|
      let x14 := v4 / x8
      let x15 : Int32 := v5 + 1
      f_X10_wordOf_39 Γ M n v0 x12 x14 x15)
    else
      some v2
def f_X10_wordOf_33 (Γ : rhG) (M : rhM) (v0 : Nat) (v1 : Int32) (v2 : Int64) : Option (Int64) :=
  f_X10_wordOf_39 Γ M rhFU v0 v2 v1 0
def f_X10_wordOf (Γ : rhG) (M : rhM) (v0 : Nat) (v1 : Int32) : Option (Int64) :=
  let x1 := (0 : Int64)
  f_X10_wordOf_5 (f_X10_wordOf_33 Γ M) Γ M rhFU v0 v1 x1 0
set_option maxHeartbeats 4000000 in
set_option maxRecDepth 100000 in
theorem b_X10_wordOf_5 {E : rhE} {Γ : rhG} {M : rhM} {k33 : Nat → Int32 → Int64 → Option (Int64)} (hk33 : ∀ (v0 : Nat) (v1 : Int32) (v2 : Int64), rhF E 5 10 yX10_wordOf cX10_wordOf (some .long) Γ (rhe0J Γ M) (k33 v0 v1 v2) 33 [(0, rhR v0), (1, rhI v1), (2, rhJ v2)] [] Γ M) : ∀ (n : Nat) (v0 : Nat) (v1 : Int32) (v2 : Int64) (v4 : Int32), rhF E 5 10 yX10_wordOf cX10_wordOf (some .long) Γ (rhe0J Γ M) (f_X10_wordOf_5 k33 Γ M n v0 v1 v2 v4) 5 [(0, rhR v0), (1, rhI v1), (2, rhJ v2), (4, rhI v4)] [] Γ M := by
  intro n
  induction n with
  | zero => intro v0 v1 v2 v4; rw [f_X10_wordOf_5]; exact rhF.nope
  | succ n ih =>
    intro v0 v1 v2 v4
    rw [f_X10_wordOf_5]
    refine rhF.iload (pc := 5) dX10_wordOf_5 3 rfl ?_
    refine rhF.aload_n (pc := 7) dX10_wordOf_7 0 rfl ?_
    refine rhF.ck (fun h2 => ?_)
    refine rhF.get (pc := 8) (rhI _) dX10_wordOf_8 fl_X10_28 h2 rfl ?_
    refine rhF.iconst (pc := 11) (v := 1) dX10_wordOf_11 (by decide) ?_
    refine rhF.isub (pc := 12) dX10_wordOf_12 ?_
    refine rhF.icmp_ge (pc := 13) 33 dX10_wordOf_13 (by decide) (fun h3 => ?_) (fun h3 => ?_)
    · refine rhF.lload_n (pc := 16) dX10_wordOf_16 2 rfl ?_
      refine rhF.ldc2 (pc := 17) dX10_wordOf_17 k_X10_54 ?_
      refine rhF.iconst (pc := 20) (v := 4) dX10_wordOf_20 (by decide) ?_
      refine rhF.iload (pc := 21) dX10_wordOf_21 3 rfl ?_
      refine rhF.imul (pc := 23) dX10_wordOf_23 ?_
      refine rhF.lshl (pc := 24) dX10_wordOf_24 ?_
      refine rhF.lor (pc := 25) dX10_wordOf_25 ?_
      refine rhF.lstore_n (pc := 26) (L' := [(2, rhJ _), (0, rhR _), (1, rhI _), (4, rhI _)]) dX10_wordOf_26 (by decide) rfl ?_
      refine rhF.iinc (pc := 27) (L' := [(4, rhI _), (2, rhJ _), (0, rhR _), (1, rhI _)]) dX10_wordOf_27 3 rfl rfl (by decide) rfl ?_
      refine rhF.goto (pc := 30) 5 dX10_wordOf_30 (by decide) ?_
      refine rhF.sub [2, 3, 1, 0] rfl ?_
      exact ih _ _ _ _
    · refine rhF.sub [0, 1, 2] rfl ?_
      exact hk33 _ _ _
set_option maxHeartbeats 4000000 in
set_option maxRecDepth 100000 in
theorem b_X10_wordOf_39 {E : rhE} {Γ : rhG} {M : rhM} : ∀ (n : Nat) (v0 : Nat) (v2 : Int64) (v4 : Int32) (v5 : Int32), rhF E 5 10 yX10_wordOf cX10_wordOf (some .long) Γ (rhe0J Γ M) (f_X10_wordOf_39 Γ M n v0 v2 v4 v5) 39 [(0, rhR v0), (2, rhJ v2), (4, rhI v4), (5, rhI v5)] [] Γ M := by
  intro n
  induction n with
  | zero => intro v0 v2 v4 v5; rw [f_X10_wordOf_39]; exact rhF.nope
  | succ n ih =>
    intro v0 v2 v4 v5
    rw [f_X10_wordOf_39]
    refine rhF.iload (pc := 39) dX10_wordOf_39 3 rfl ?_
    refine rhF.aload_n (pc := 41) dX10_wordOf_41 0 rfl ?_
    refine rhF.ck (fun h6 => ?_)
    refine rhF.get (pc := 42) (rhI _) dX10_wordOf_42 fl_X10_21 h6 rfl ?_
    refine rhF.icmp_ge (pc := 45) 110 dX10_wordOf_45 (by decide) (fun h7 => ?_) (fun h7 => ?_)
    · refine rhF.aload_n (pc := 48) dX10_wordOf_48 0 rfl ?_
      refine rhF.get (pc := 49) (rhI _) dX10_wordOf_49 fl_X10_28 h6 rfl ?_
      refine rhF.iload (pc := 52) dX10_wordOf_52 3 rfl ?_
      refine rhF.iadd (pc := 54) dX10_wordOf_54 ?_
      refine rhF.iconst (pc := 55) (v := 1) dX10_wordOf_55 (by decide) ?_
      refine rhF.mmax (pc := 56) dX10_wordOf_56 mm_X10_56 (by decide) (Nat.le_of_ble_eq_true rfl) ?_
      refine rhF.istore (pc := 59) (L' := [(6, rhI _), (0, rhR _), (2, rhJ _), (4, rhI _), (5, rhI _)]) dX10_wordOf_59 (by decide) rfl ?_
      refine rhF.iconst (pc := 61) (v := 4) dX10_wordOf_61 (by decide) ?_
      refine rhF.iload (pc := 62) dX10_wordOf_62 3 rfl ?_
      refine rhF.iload (pc := 64) dX10_wordOf_64 0 rfl ?_
      refine rhF.ck (fun h9 => ?_)
      refine rhF.iremc (pc := 66) dX10_wordOf_66 h9 ?_
      refine rhF.imul (pc := 67) dX10_wordOf_67 ?_
      refine rhF.istore (pc := 68) (L' := [(7, rhI _), (6, rhI _), (0, rhR _), (2, rhJ _), (4, rhI _), (5, rhI _)]) dX10_wordOf_68 (by decide) rfl ?_
      refine rhF.lload_n (pc := 70) dX10_wordOf_70 3 rfl ?_
      refine rhF.lconst (pc := 71) (v := 1) dX10_wordOf_71 (by decide) ?_
      refine rhF.iload (pc := 72) dX10_wordOf_72 0 rfl ?_
      refine rhF.lshl (pc := 74) dX10_wordOf_74 ?_
      refine rhF.lconst (pc := 75) (v := 1) dX10_wordOf_75 (by decide) ?_
      refine rhF.lsub (pc := 76) dX10_wordOf_76 ?_
      refine rhF.land (pc := 77) dX10_wordOf_77 ?_
      refine rhF.lstore (pc := 78) (L' := [(8, rhJ _), (7, rhI _), (6, rhI _), (0, rhR _), (2, rhJ _), (4, rhI _), (5, rhI _)]) dX10_wordOf_78 (by decide) rfl ?_
      refine rhF.lload_n (pc := 80) dX10_wordOf_80 4 rfl ?_
      refine rhF.lload (pc := 81) dX10_wordOf_81 0 rfl ?_
      refine rhF.lxor (pc := 83) dX10_wordOf_83 ?_
      refine rhF.iconst (pc := 84) (v := 4) dX10_wordOf_84 (by decide) ?_
      refine rhF.lshl (pc := 85) dX10_wordOf_85 ?_
      refine rhF.iload (pc := 86) dX10_wordOf_86 6 rfl ?_
      refine rhF.i2l (pc := 88) dX10_wordOf_88 ?_
      refine rhF.iload (pc := 89) dX10_wordOf_89 1 rfl ?_
      refine rhF.lshl (pc := 91) dX10_wordOf_91 ?_
      refine rhF.lor (pc := 92) dX10_wordOf_92 ?_
      refine rhF.lload (pc := 93) dX10_wordOf_93 0 rfl ?_
      refine rhF.lor (pc := 95) dX10_wordOf_95 ?_
      refine rhF.lstore_n (pc := 96) (L' := [(2, rhJ _), (8, rhJ _), (7, rhI _), (6, rhI _), (0, rhR _), (4, rhI _), (5, rhI _)]) dX10_wordOf_96 (by decide) rfl ?_
      refine rhF.iload (pc := 97) dX10_wordOf_97 5 rfl ?_
      refine rhF.iload (pc := 99) dX10_wordOf_99 3 rfl ?_
      refine rhF.ck (fun h13 => ?_)
      refine rhF.idivc (pc := 101) dX10_wordOf_101 h13 ?_
      refine rhF.istore (pc := 102) (L' := [(4, rhI _), (2, rhJ _), (8, rhJ _), (7, rhI _), (6, rhI _), (0, rhR _), (5, rhI _)]) dX10_wordOf_102 (by decide) rfl ?_
      refine rhF.iinc (pc := 104) (L' := [(5, rhI _), (4, rhI _), (2, rhJ _), (8, rhJ _), (7, rhI _), (6, rhI _), (0, rhR _)]) dX10_wordOf_104 6 rfl rfl (by decide) rfl ?_
      refine rhF.goto (pc := 107) 39 dX10_wordOf_107 (by decide) ?_
      refine rhF.sub [6, 2, 1, 0] rfl ?_
      exact ih _ _ _ _
    · refine rhF.lload_n (pc := 110) dX10_wordOf_110 1 rfl ?_
      exact rhF.lret (pc := 111) dX10_wordOf_111 rfl rfl
set_option maxHeartbeats 4000000 in
set_option maxRecDepth 100000 in
theorem b_X10_wordOf_33 {E : rhE} {Γ : rhG} {M : rhM} : ∀ (v0 : Nat) (v1 : Int32) (v2 : Int64), rhF E 5 10 yX10_wordOf cX10_wordOf (some .long) Γ (rhe0J Γ M) (f_X10_wordOf_33 Γ M v0 v1 v2) 33 [(0, rhR v0), (1, rhI v1), (2, rhJ v2)] [] Γ M := by
  intro v0 v1 v2
  rw [f_X10_wordOf_33]
  refine rhF.iload_n (pc := 33) dX10_wordOf_33 1 rfl ?_
  refine rhF.istore (pc := 34) (L' := [(4, rhI _), (0, rhR _), (1, rhI _), (2, rhJ _)]) dX10_wordOf_34 (by decide) rfl ?_
  refine rhF.iconst (pc := 36) (v := 0) dX10_wordOf_36 (by decide) ?_
  refine rhF.istore (pc := 37) (L' := [(5, rhI _), (4, rhI _), (0, rhR _), (1, rhI _), (2, rhJ _)]) dX10_wordOf_37 (by decide) rfl ?_
  refine rhF.sub [2, 4, 1, 0] rfl ?_
  exact (b_X10_wordOf_39 rhFU) _ _ _ _
set_option maxHeartbeats 4000000 in
set_option maxRecDepth 100000 in
theorem b_X10_wordOf {E : rhE} {Γ : rhG} {M : rhM} : ∀ (v0 : Nat) (v1 : Int32), rhF E 5 10 yX10_wordOf cX10_wordOf (some .long) Γ (rhe0J Γ M) (f_X10_wordOf Γ M v0 v1) 0 [(0, rhR v0), (1, rhI v1)] [] Γ M := by
  intro v0 v1
  rw [f_X10_wordOf]
  refine rhF.lconst (pc := 0) (v := 0) dX10_wordOf_0 (by decide) ?_
  refine rhF.lstore_n (pc := 1) (L' := [(2, rhJ _), (0, rhR _), (1, rhI _)]) dX10_wordOf_1 (by decide) rfl ?_
  refine rhF.iconst (pc := 2) (v := 0) dX10_wordOf_2 (by decide) ?_
  refine rhF.istore (pc := 3) (L' := [(4, rhI _), (2, rhJ _), (0, rhR _), (1, rhI _)]) dX10_wordOf_3 (by decide) rfl ?_
  refine rhF.sub [2, 3, 1, 0] rfl ?_
  exact (b_X10_wordOf_5 (b_X10_wordOf_33) rhFU) _ _ _ _
theorem c_X10_wordOf (E : rhE) (Γ : rhG) (M : rhM) (v0 : Nat) (v1 : Int32) : ∀ a, f_X10_wordOf Γ M v0 v1 = some a → rhC E 5 yX10_wordOf cX10_wordOf 10 (some .long) [rhR v0, rhI v1] Γ M ((rhe0J Γ M) a) := rhF.met (by decide +kernel) (Nat.le_of_ble_eq_true rfl) (b_X10_wordOf v0 v1)
def f_X5_isAlone_64 (k80 : Nat → Int64 → Int32 → Int32 → Option (Int32)) (k83 : Nat → Int64 → Int32 → Int32 → Int32 → Option (Int32)) (Γ : rhG) (M : rhM) (v0 : Nat) (v1 : Int64) (v3 : Int32) (v4 : Int32) (v5 : Int32) (v6 : Int32) (v7 : Int32) : Option (Int32) :=
  rhck (Γ.2.2.1 v0 = 6) <|
  if v7 = (M.1 v0 9) then
    (if v6 = 8 then
      (k83 v0 v1 v3 v4 v5)
    else
      k80 v0 v1 v3 v5)
  else
    k83 v0 v1 v3 v4 v5
def f_X5_isAlone_80 (k83 : Nat → Int64 → Int32 → Int32 → Int32 → Option (Int32)) (Γ : rhG) (M : rhM) (v0 : Nat) (v1 : Int64) (v3 : Int32) (v5 : Int32) : Option (Int32) :=
  k83 v0 v1 v3 0 v5
def f_X5_isAlone_83 (k24 : Nat → Int64 → Int32 → Int32 → Int32 → Option (Int32)) (Γ : rhG) (M : rhM) (v0 : Nat) (v1 : Int64) (v3 : Int32) (v4 : Int32) (v5 : Int32) : Option (Int32) :=
  let x13 : Int32 := v5 + 1
  k24 v0 v1 v3 v4 x13
def f_X5_isAlone_24 (Γ : rhG) (M : rhM) : Nat → Nat → Int64 → Int32 → Int32 → Int32 → Option (Int32)
  | 0, _, _, _, _, _ => none
  | n + 1, v0, v1, v3, v4, v5 =>
    if v5 < v3 then
      ((f_X7_digitOf Γ M v1 (v5 - 1)).bind fun r5 =>
      (f_X7_digitOf Γ M v1 v5).bind fun r6 =>
      rhck (Γ.2.2.1 v0 = 6) <|
      if r5 = (M.1 v0 9) then
        (if r6 = 8 then
          (f_X5_isAlone_64 (f_X5_isAlone_80 (f_X5_isAlone_83 (f_X5_isAlone_24 Γ M n) Γ M) Γ M) (f_X5_isAlone_83 (f_X5_isAlone_24 Γ M n) Γ M) Γ M v0 v1 v3 v4 v5 r5 r6)
        else
          f_X5_isAlone_80 (f_X5_isAlone_83 (f_X5_isAlone_24 Γ M n) Γ M) Γ M v0 v1 v3 v5)
      else
        f_X5_isAlone_64 (f_X5_isAlone_80 (f_X5_isAlone_83 (f_X5_isAlone_24 Γ M n) Γ M) Γ M) (f_X5_isAlone_83 (f_X5_isAlone_24 Γ M n) Γ M) Γ M v0 v1 v3 v4 v5 r5 r6)
    else
      rhck (v4 = 0 ∨ v4 = 1) <|
      some v4
def f_X5_isAlone (Γ : rhG) (M : rhM) (v0 : Nat) (v1 : Int64) : Option (Int32) :=
  rhck (Γ.2.2.1 v0 = 6) <|
  rhck (Γ.2.2.1 (M.2.2 v0 5) = 10) <|
  let x3 := ((M.1 (M.2.2 v0 5) 1) + (M.1 (M.2.2 v0 5) 0)) - 1
  f_X5_isAlone_24 Γ M rhFU v0 v1 x3 1 1
set_option maxHeartbeats 4000000 in
set_option maxRecDepth 100000 in
theorem b_X5_isAlone_64 {E : rhE} {Γ : rhG} {M : rhM} {k80 : Nat → Int64 → Int32 → Int32 → Option (Int32)} {k83 : Nat → Int64 → Int32 → Int32 → Int32 → Option (Int32)} (hk80 : ∀ (v0 : Nat) (v1 : Int64) (v3 : Int32) (v5 : Int32), rhF E 5 8 yX5_isAlone cX5_isAlone (some .boolean) Γ (rhe0I Γ M) (k80 v0 v1 v3 v5) 80 [(0, rhR v0), (1, rhJ v1), (3, rhI v3), (5, rhI v5)] [] Γ M) (hk83 : ∀ (v0 : Nat) (v1 : Int64) (v3 : Int32) (v4 : Int32) (v5 : Int32), rhF E 5 8 yX5_isAlone cX5_isAlone (some .boolean) Γ (rhe0I Γ M) (k83 v0 v1 v3 v4 v5) 83 [(0, rhR v0), (1, rhJ v1), (3, rhI v3), (4, rhI v4), (5, rhI v5)] [] Γ M) : ∀ (v0 : Nat) (v1 : Int64) (v3 : Int32) (v4 : Int32) (v5 : Int32) (v6 : Int32) (v7 : Int32), rhF E 5 8 yX5_isAlone cX5_isAlone (some .boolean) Γ (rhe0I Γ M) (f_X5_isAlone_64 k80 k83 Γ M v0 v1 v3 v4 v5 v6 v7) 64 [(0, rhR v0), (1, rhJ v1), (3, rhI v3), (4, rhI v4), (5, rhI v5), (6, rhI v6), (7, rhI v7)] [] Γ M := by
  intro v0 v1 v3 v4 v5 v6 v7
  rw [f_X5_isAlone_64]
  refine rhF.iload (pc := 64) dX5_isAlone_64 6 rfl ?_
  refine rhF.aload_n (pc := 66) dX5_isAlone_66 0 rfl ?_
  refine rhF.ck (fun h10 => ?_)
  refine rhF.get (pc := 67) (rhI _) dX5_isAlone_67 fl_X5_63 h10 rfl ?_
  refine rhF.icmp_ne (pc := 70) 83 dX5_isAlone_70 (by decide) (fun h11 => ?_) (fun h11 => ?_)
  · refine rhF.iload (pc := 73) dX5_isAlone_73 5 rfl ?_
    refine rhF.bipush (pc := 75) (v := 8) dX5_isAlone_75 (by decide) ?_
    refine rhF.icmp_eq (pc := 77) 83 dX5_isAlone_77 (by decide) (fun h12 => ?_) (fun h12 => ?_)
    · refine rhF.sub [0, 1, 2, 3, 4] rfl ?_
      exact hk83 _ _ _ _ _
    · refine rhF.sub [0, 1, 2, 4] rfl ?_
      exact hk80 _ _ _ _
  · refine rhF.sub [0, 1, 2, 3, 4] rfl ?_
    exact hk83 _ _ _ _ _
set_option maxHeartbeats 4000000 in
set_option maxRecDepth 100000 in
theorem b_X5_isAlone_80 {E : rhE} {Γ : rhG} {M : rhM} {k83 : Nat → Int64 → Int32 → Int32 → Int32 → Option (Int32)} (hk83 : ∀ (v0 : Nat) (v1 : Int64) (v3 : Int32) (v4 : Int32) (v5 : Int32), rhF E 5 8 yX5_isAlone cX5_isAlone (some .boolean) Γ (rhe0I Γ M) (k83 v0 v1 v3 v4 v5) 83 [(0, rhR v0), (1, rhJ v1), (3, rhI v3), (4, rhI v4), (5, rhI v5)] [] Γ M) : ∀ (v0 : Nat) (v1 : Int64) (v3 : Int32) (v5 : Int32), rhF E 5 8 yX5_isAlone cX5_isAlone (some .boolean) Γ (rhe0I Γ M) (f_X5_isAlone_80 k83 Γ M v0 v1 v3 v5) 80 [(0, rhR v0), (1, rhJ v1), (3, rhI v3), (5, rhI v5)] [] Γ M := by
  intro v0 v1 v3 v5
  rw [f_X5_isAlone_80]
  refine rhF.iconst (pc := 80) (v := 0) dX5_isAlone_80 (by decide) ?_
  refine rhF.istore (pc := 81) (L' := [(4, rhI _), (0, rhR _), (1, rhJ _), (3, rhI _), (5, rhI _)]) dX5_isAlone_81 (by decide) rfl ?_
  refine rhF.sub [1, 2, 3, 0, 4] rfl ?_
  exact hk83 _ _ _ _ _
set_option maxHeartbeats 4000000 in
set_option maxRecDepth 100000 in
theorem b_X5_isAlone_83 {E : rhE} {Γ : rhG} {M : rhM} {k24 : Nat → Int64 → Int32 → Int32 → Int32 → Option (Int32)} (hk24 : ∀ (v0 : Nat) (v1 : Int64) (v3 : Int32) (v4 : Int32) (v5 : Int32), rhF E 5 8 yX5_isAlone cX5_isAlone (some .boolean) Γ (rhe0I Γ M) (k24 v0 v1 v3 v4 v5) 24 [(0, rhR v0), (1, rhJ v1), (3, rhI v3), (4, rhI v4), (5, rhI v5)] [] Γ M) : ∀ (v0 : Nat) (v1 : Int64) (v3 : Int32) (v4 : Int32) (v5 : Int32), rhF E 5 8 yX5_isAlone cX5_isAlone (some .boolean) Γ (rhe0I Γ M) (f_X5_isAlone_83 k24 Γ M v0 v1 v3 v4 v5) 83 [(0, rhR v0), (1, rhJ v1), (3, rhI v3), (4, rhI v4), (5, rhI v5)] [] Γ M := by
  intro v0 v1 v3 v4 v5
  rw [f_X5_isAlone_83]
  refine rhF.iinc (pc := 83) (L' := [(5, rhI _), (0, rhR _), (1, rhJ _), (3, rhI _), (4, rhI _)]) dX5_isAlone_83 4 rfl rfl (by decide) rfl ?_
  refine rhF.goto (pc := 86) 24 dX5_isAlone_86 (by decide) ?_
  refine rhF.sub [1, 2, 3, 4, 0] rfl ?_
  exact hk24 _ _ _ _ _
set_option maxHeartbeats 4000000 in
set_option maxRecDepth 100000 in
theorem b_X5_isAlone_24 {E : rhE} {Γ : rhG} {M : rhM} : ∀ (n : Nat) (v0 : Nat) (v1 : Int64) (v3 : Int32) (v4 : Int32) (v5 : Int32), rhF E 5 8 yX5_isAlone cX5_isAlone (some .boolean) Γ (rhe0I Γ M) (f_X5_isAlone_24 Γ M n v0 v1 v3 v4 v5) 24 [(0, rhR v0), (1, rhJ v1), (3, rhI v3), (4, rhI v4), (5, rhI v5)] [] Γ M := by
  intro n
  induction n with
  | zero => intro v0 v1 v3 v4 v5; rw [f_X5_isAlone_24]; exact rhF.nope
  | succ n ih =>
    intro v0 v1 v3 v4 v5
    rw [f_X5_isAlone_24]
    refine rhF.iload (pc := 24) dX5_isAlone_24 4 rfl ?_
    refine rhF.iload_n (pc := 26) dX5_isAlone_26 2 rfl ?_
    refine rhF.icmp_ge (pc := 27) 89 dX5_isAlone_27 (by decide) (fun h4 => ?_) (fun h4 => ?_)
    · refine rhF.lload_n (pc := 30) dX5_isAlone_30 1 rfl ?_
      refine rhF.iload (pc := 31) dX5_isAlone_31 4 rfl ?_
      refine rhF.iconst (pc := 33) (v := 1) dX5_isAlone_33 (by decide) ?_
      refine rhF.isub (pc := 34) dX5_isAlone_34 ?_
      refine rhF.callS (pc := 35) (embc := rhe0I _ _) [rhJ _, rhI _] dX5_isAlone_35 ml_X5_173 ms_X7_digitOf (c_X7_digitOf _ _ _ _ _) (by decide) (by decide) rfl (Nat.le_of_ble_eq_true rfl) (fun r5 _ => ?_)
      refine rhF.istore (pc := 38) (L' := [(6, rhI _), (0, rhR _), (1, rhJ _), (3, rhI _), (4, rhI _), (5, rhI _)]) dX5_isAlone_38 (by decide) rfl ?_
      refine rhF.lload_n (pc := 40) dX5_isAlone_40 2 rfl ?_
      refine rhF.iload (pc := 41) dX5_isAlone_41 5 rfl ?_
      refine rhF.callS (pc := 43) (embc := rhe0I _ _) [rhJ _, rhI _] dX5_isAlone_43 ml_X5_173 ms_X7_digitOf (c_X7_digitOf _ _ _ _ _) (by decide) (by decide) rfl (Nat.le_of_ble_eq_true rfl) (fun r6 _ => ?_)
      refine rhF.istore (pc := 46) (L' := [(7, rhI _), (6, rhI _), (0, rhR _), (1, rhJ _), (3, rhI _), (4, rhI _), (5, rhI _)]) dX5_isAlone_46 (by decide) rfl ?_
      refine rhF.iload (pc := 48) dX5_isAlone_48 1 rfl ?_
      refine rhF.aload_n (pc := 50) dX5_isAlone_50 2 rfl ?_
      refine rhF.ck (fun h7 => ?_)
      refine rhF.get (pc := 51) (rhI _) dX5_isAlone_51 fl_X5_63 h7 rfl ?_
      refine rhF.icmp_ne (pc := 54) 64 dX5_isAlone_54 (by decide) (fun h8 => ?_) (fun h8 => ?_)
      · refine rhF.iload (pc := 57) dX5_isAlone_57 0 rfl ?_
        refine rhF.bipush (pc := 59) (v := 8) dX5_isAlone_59 (by decide) ?_
        refine rhF.icmp_ne (pc := 61) 80 dX5_isAlone_61 (by decide) (fun h9 => ?_) (fun h9 => ?_)
        · refine rhF.sub [2, 3, 4, 5, 6, 1, 0] rfl ?_
          exact (b_X5_isAlone_64 (b_X5_isAlone_80 (b_X5_isAlone_83 ih)) (b_X5_isAlone_83 ih)) _ _ _ _ _ _ _
        · refine rhF.sub [2, 3, 4, 6] rfl ?_
          exact (b_X5_isAlone_80 (b_X5_isAlone_83 ih)) _ _ _ _
      · refine rhF.sub [2, 3, 4, 5, 6, 1, 0] rfl ?_
        exact (b_X5_isAlone_64 (b_X5_isAlone_80 (b_X5_isAlone_83 ih)) (b_X5_isAlone_83 ih)) _ _ _ _ _ _ _
    · refine rhF.iload (pc := 89) dX5_isAlone_89 3 rfl ?_
      refine rhF.ck (fun h14 => ?_)
      exact rhF.zret (pc := 91) dX5_isAlone_91 rfl (rhzb h14) rfl
set_option maxHeartbeats 4000000 in
set_option maxRecDepth 100000 in
theorem b_X5_isAlone {E : rhE} {Γ : rhG} {M : rhM} : ∀ (v0 : Nat) (v1 : Int64), rhF E 5 8 yX5_isAlone cX5_isAlone (some .boolean) Γ (rhe0I Γ M) (f_X5_isAlone Γ M v0 v1) 0 [(0, rhR v0), (1, rhJ v1)] [] Γ M := by
  intro v0 v1
  rw [f_X5_isAlone]
  refine rhF.aload_n (pc := 0) dX5_isAlone_0 0 rfl ?_
  refine rhF.ck (fun h1 => ?_)
  refine rhF.get (pc := 1) (rhR _) dX5_isAlone_1 fl_X5_77 h1 rfl ?_
  refine rhF.ck (fun h2 => ?_)
  refine rhF.get (pc := 4) (rhI _) dX5_isAlone_4 fl_X5_167 h2 rfl ?_
  refine rhF.aload_n (pc := 7) dX5_isAlone_7 0 rfl ?_
  refine rhF.get (pc := 8) (rhR _) dX5_isAlone_8 fl_X5_77 h1 rfl ?_
  refine rhF.get (pc := 11) (rhI _) dX5_isAlone_11 fl_X5_170 h2 rfl ?_
  refine rhF.iadd (pc := 14) dX5_isAlone_14 ?_
  refine rhF.iconst (pc := 15) (v := 1) dX5_isAlone_15 (by decide) ?_
  refine rhF.isub (pc := 16) dX5_isAlone_16 ?_
  refine rhF.istore_n (pc := 17) (L' := [(3, rhI _), (0, rhR _), (1, rhJ _)]) dX5_isAlone_17 (by decide) rfl ?_
  refine rhF.iconst (pc := 18) (v := 1) dX5_isAlone_18 (by decide) ?_
  refine rhF.istore (pc := 19) (L' := [(4, rhI _), (3, rhI _), (0, rhR _), (1, rhJ _)]) dX5_isAlone_19 (by decide) rfl ?_
  refine rhF.iconst (pc := 21) (v := 1) dX5_isAlone_21 (by decide) ?_
  refine rhF.istore (pc := 22) (L' := [(5, rhI _), (4, rhI _), (3, rhI _), (0, rhR _), (1, rhJ _)]) dX5_isAlone_22 (by decide) rfl ?_
  refine rhF.sub [3, 4, 2, 1, 0] rfl ?_
  exact (b_X5_isAlone_24 rhFU) _ _ _ _ _
theorem c_X5_isAlone (E : rhE) (Γ : rhG) (M : rhM) (v0 : Nat) (v1 : Int64) : ∀ a, f_X5_isAlone Γ M v0 v1 = some a → rhC E 5 yX5_isAlone cX5_isAlone 8 (some .boolean) [rhR v0, rhJ v1] Γ M ((rhe0I Γ M) a) := rhF.met (by decide +kernel) (Nat.le_of_ble_eq_true rfl) (b_X5_isAlone v0 v1)
def f_X5_keepBest_16 (Γ : rhG) (M : rhM) (v0 : Nat) (v1 : Int32) (v2 : Int32) : Option (rhM) :=
  rhck (Γ.2.2.1 v0 = 6) <|
  let M4 := rhsi M v0 10 v1
  let M5 := rhsi M4 v0 0 v2
  some M5
def f_X5_keepBest (Γ : rhG) (M : rhM) (v0 : Nat) (v1 : Int32) (v2 : Int32) : Option (rhM) :=
  rhck (Γ.2.2.1 v0 = 6) <|
  if (M.1 v0 10) = ((-1)) then
    (f_X5_keepBest_16 Γ M v0 v1 v2)
  else
    if (M.1 v0 0) < v2 then
      (f_X5_keepBest_16 Γ M v0 v1 v2)
    else
      some M
set_option maxHeartbeats 4000000 in
set_option maxRecDepth 100000 in
theorem b_X5_keepBest_16 {E : rhE} {Γ : rhG} : ∀ (M : rhM) (v0 : Nat) (v1 : Int32) (v2 : Int32), rhF E 1 3 yX5_keepBest cX5_keepBest none Γ (rhe1U Γ) (f_X5_keepBest_16 Γ M v0 v1 v2) 16 [(0, rhR v0), (1, rhI v1), (2, rhI v2)] [] Γ M := by
  intro M v0 v1 v2
  rw [f_X5_keepBest_16]
  refine rhF.aload_n (pc := 16) dX5_keepBest_16 0 rfl ?_
  refine rhF.iload_n (pc := 17) dX5_keepBest_17 1 rfl ?_
  refine rhF.ck (fun h3 => ?_)
  refine rhF.puti (pc := 18) dX5_keepBest_18 fl_X5_81 h3 (fun q hq => by cases hq; exact Or.inl rfl) ⟨rfl, rfl⟩ (fun _ => rfl) ?_
  refine rhF.aload_n (pc := 21) dX5_keepBest_21 0 rfl ?_
  refine rhF.iload_n (pc := 22) dX5_keepBest_22 2 rfl ?_
  refine rhF.puti (pc := 23) dX5_keepBest_23 fl_X5_84 h3 (fun q hq => by cases hq; exact Or.inl rfl) ⟨rfl, rfl⟩ (fun _ => rfl) ?_
  exact rhF.vret (pc := 26) dX5_keepBest_26 rfl rfl
set_option maxHeartbeats 4000000 in
set_option maxRecDepth 100000 in
theorem b_X5_keepBest {E : rhE} {Γ : rhG} : ∀ (M : rhM) (v0 : Nat) (v1 : Int32) (v2 : Int32), rhF E 1 3 yX5_keepBest cX5_keepBest none Γ (rhe1U Γ) (f_X5_keepBest Γ M v0 v1 v2) 0 [(0, rhR v0), (1, rhI v1), (2, rhI v2)] [] Γ M := by
  intro M v0 v1 v2
  rw [f_X5_keepBest]
  refine rhF.aload_n (pc := 0) dX5_keepBest_0 0 rfl ?_
  refine rhF.ck (fun h1 => ?_)
  refine rhF.get (pc := 1) (rhI _) dX5_keepBest_1 fl_X5_81 h1 rfl ?_
  refine rhF.iconst (pc := 4) (v := (-1)) dX5_keepBest_4 (by decide) ?_
  refine rhF.icmp_eq (pc := 5) 16 dX5_keepBest_5 (by decide) (fun h2 => ?_) (fun h2 => ?_)
  · exact (b_X5_keepBest_16) _ _ _ _
  · refine rhF.iload_n (pc := 8) dX5_keepBest_8 2 rfl ?_
    refine rhF.aload_n (pc := 9) dX5_keepBest_9 0 rfl ?_
    refine rhF.get (pc := 10) (rhI _) dX5_keepBest_10 fl_X5_84 h1 rfl ?_
    refine rhF.icmp_le (pc := 13) 26 dX5_keepBest_13 (by decide) (fun h6 => ?_) (fun h6 => ?_)
    · exact (b_X5_keepBest_16) _ _ _ _
    · exact rhF.vret (pc := 26) dX5_keepBest_26 rfl rfl
theorem c_X5_keepBest (E : rhE) (Γ : rhG) (M : rhM) (v0 : Nat) (v1 : Int32) (v2 : Int32) : ∀ a, f_X5_keepBest Γ M v0 v1 v2 = some a → rhC E 1 yX5_keepBest cX5_keepBest 3 none [rhR v0, rhI v1, rhI v2] Γ M ((rhe1U Γ) a) := rhF.met (by decide +kernel) (Nat.le_of_ble_eq_true rfl) (b_X5_keepBest M v0 v1 v2)
def f_X9_worthOf_57 (k8 : Nat → Int64 → Int32 → Int32 → Int32 → Option (Int32)) (Γ : rhG) (M : rhM) (v0 : Nat) (v1 : Int64) (v3 : Int32) (v5 : Int32) (v6 : Int32) : Option (Int32) :=
  let x6 : Int32 := v5 + 1
  k8 v0 v1 v3 v6 x6
def f_X9_worthOf_8 (Γ : rhG) (M : rhM) : Nat → Nat → Int64 → Int32 → Int32 → Int32 → Option (Int32)
  | 0, _, _, _, _, _ => none
  | n + 1, v0, v1, v3, v4, v5 =>
    rhck (Γ.2.2.1 v0 = 10) <|
    if v5 < (M.1 v0 1) then
      ((f_X7_digitOf Γ M v1 v5).bind fun r3 =>
      if r3 < 8 then
        (if v4 = ((-1)) then
          (f_X9_worthOf_57 (f_X9_worthOf_8 Γ M n) Γ M v0 v1 v3 v5 r3)
        else
          rhck (Γ.2.2.1 (M.2.2 v0 9) = 15) <|
          rhck (0 ≤ ((v4 * 8) + r3).toInt ∧ ((v4 * 8) + r3).toInt < (Γ.2.2.2 (M.2.2 v0 9) : Nat)) <|
          let x9 := v3 + (M.1 (M.2.2 v0 9) ((v4 * 8) + r3).toNatClampNeg)
          f_X9_worthOf_57 (f_X9_worthOf_8 Γ M n) Γ M v0 v1 x9 v5 r3)
      else
        some v3)
    else
      some v3
def f_X9_worthOf (Γ : rhG) (M : rhM) (v0 : Nat) (v1 : Int64) : Option (Int32) :=
  f_X9_worthOf_8 Γ M rhFU v0 v1 0 ((-1)) 0
set_option maxHeartbeats 4000000 in
set_option maxRecDepth 100000 in
theorem b_X9_worthOf_57 {E : rhE} {Γ : rhG} {M : rhM} {k8 : Nat → Int64 → Int32 → Int32 → Int32 → Option (Int32)} (hk8 : ∀ (v0 : Nat) (v1 : Int64) (v3 : Int32) (v4 : Int32) (v5 : Int32), rhF E 5 7 yX9_worthOf cX9_worthOf (some .int) Γ (rhe0I Γ M) (k8 v0 v1 v3 v4 v5) 8 [(0, rhR v0), (1, rhJ v1), (3, rhI v3), (4, rhI v4), (5, rhI v5)] [] Γ M) : ∀ (v0 : Nat) (v1 : Int64) (v3 : Int32) (v5 : Int32) (v6 : Int32), rhF E 5 7 yX9_worthOf cX9_worthOf (some .int) Γ (rhe0I Γ M) (f_X9_worthOf_57 k8 Γ M v0 v1 v3 v5 v6) 57 [(0, rhR v0), (1, rhJ v1), (3, rhI v3), (5, rhI v5), (6, rhI v6)] [] Γ M := by
  intro v0 v1 v3 v5 v6
  rw [f_X9_worthOf_57]
  refine rhF.iload (pc := 57) dX9_worthOf_57 4 rfl ?_
  refine rhF.istore (pc := 59) (L' := [(4, rhI _), (0, rhR _), (1, rhJ _), (3, rhI _), (5, rhI _), (6, rhI _)]) dX9_worthOf_59 (by decide) rfl ?_
  refine rhF.iinc (pc := 61) (L' := [(5, rhI _), (4, rhI _), (0, rhR _), (1, rhJ _), (3, rhI _), (6, rhI _)]) dX9_worthOf_61 4 rfl rfl (by decide) rfl ?_
  refine rhF.goto (pc := 64) 8 dX9_worthOf_64 (by decide) ?_
  refine rhF.sub [2, 3, 4, 1, 0] rfl ?_
  exact hk8 _ _ _ _ _
set_option maxHeartbeats 4000000 in
set_option maxRecDepth 100000 in
theorem b_X9_worthOf_8 {E : rhE} {Γ : rhG} {M : rhM} : ∀ (n : Nat) (v0 : Nat) (v1 : Int64) (v3 : Int32) (v4 : Int32) (v5 : Int32), rhF E 5 7 yX9_worthOf cX9_worthOf (some .int) Γ (rhe0I Γ M) (f_X9_worthOf_8 Γ M n v0 v1 v3 v4 v5) 8 [(0, rhR v0), (1, rhJ v1), (3, rhI v3), (4, rhI v4), (5, rhI v5)] [] Γ M := by
  intro n
  induction n with
  | zero => intro v0 v1 v3 v4 v5; rw [f_X9_worthOf_8]; exact rhF.nope
  | succ n ih =>
    intro v0 v1 v3 v4 v5
    rw [f_X9_worthOf_8]
    refine rhF.iload (pc := 8) dX9_worthOf_8 4 rfl ?_
    refine rhF.aload_n (pc := 10) dX9_worthOf_10 0 rfl ?_
    refine rhF.ck (fun h1 => ?_)
    refine rhF.get (pc := 11) (rhI _) dX9_worthOf_11 fl_X9_42 h1 rfl ?_
    refine rhF.icmp_ge (pc := 14) 67 dX9_worthOf_14 (by decide) (fun h2 => ?_) (fun h2 => ?_)
    · refine rhF.lload_n (pc := 17) dX9_worthOf_17 1 rfl ?_
      refine rhF.iload (pc := 18) dX9_worthOf_18 4 rfl ?_
      refine rhF.callS (pc := 20) (embc := rhe0I _ _) [rhJ _, rhI _] dX9_worthOf_20 ml_X9_67 ms_X7_digitOf (c_X7_digitOf _ _ _ _ _) (by decide) (by decide) rfl (Nat.le_of_ble_eq_true rfl) (fun r3 _ => ?_)
      refine rhF.istore (pc := 23) (L' := [(6, rhI _), (0, rhR _), (1, rhJ _), (3, rhI _), (4, rhI _), (5, rhI _)]) dX9_worthOf_23 (by decide) rfl ?_
      refine rhF.iload (pc := 25) dX9_worthOf_25 0 rfl ?_
      refine rhF.bipush (pc := 27) (v := 8) dX9_worthOf_27 (by decide) ?_
      refine rhF.icmp_lt (pc := 29) 35 dX9_worthOf_29 (by decide) (fun h4 => ?_) (fun h4 => ?_)
      · refine rhF.iload (pc := 35) dX9_worthOf_35 4 rfl ?_
        refine rhF.iconst (pc := 37) (v := (-1)) dX9_worthOf_37 (by decide) ?_
        refine rhF.icmp_eq (pc := 38) 57 dX9_worthOf_38 (by decide) (fun h5 => ?_) (fun h5 => ?_)
        · refine rhF.sub [1, 2, 3, 5, 0] rfl ?_
          exact (b_X9_worthOf_57 ih) _ _ _ _ _
        · refine rhF.iload_n (pc := 41) dX9_worthOf_41 3 rfl ?_
          refine rhF.aload_n (pc := 42) dX9_worthOf_42 1 rfl ?_
          refine rhF.get (pc := 43) (rhR _) dX9_worthOf_43 fl_X9_21 h1 rfl ?_
          refine rhF.iload (pc := 46) dX9_worthOf_46 4 rfl ?_
          refine rhF.bipush (pc := 48) (v := 8) dX9_worthOf_48 (by decide) ?_
          refine rhF.imul (pc := 50) dX9_worthOf_50 ?_
          refine rhF.iload (pc := 51) dX9_worthOf_51 0 rfl ?_
          refine rhF.iadd (pc := 53) dX9_worthOf_53 ?_
          refine rhF.ck (fun h7 => ?_)
          refine rhF.ck (fun h8 => ?_)
          refine rhF.iald (pc := 54) dX9_worthOf_54 h7 h8 ?_
          refine rhF.iadd (pc := 55) dX9_worthOf_55 ?_
          refine rhF.istore_n (pc := 56) (L' := [(3, rhI _), (6, rhI _), (0, rhR _), (1, rhJ _), (4, rhI _), (5, rhI _)]) dX9_worthOf_56 (by decide) rfl ?_
          refine rhF.sub [2, 3, 0, 5, 1] rfl ?_
          exact (b_X9_worthOf_57 ih) _ _ _ _ _
      · refine rhF.goto (pc := 32) 67 dX9_worthOf_32 (by decide) ?_
        refine rhF.iload_n (pc := 67) dX9_worthOf_67 3 rfl ?_
        exact rhF.zret (pc := 68) dX9_worthOf_68 rfl rfl rfl
    · refine rhF.iload_n (pc := 67) dX9_worthOf_67 2 rfl ?_
      exact rhF.zret (pc := 68) dX9_worthOf_68 rfl rfl rfl
set_option maxHeartbeats 4000000 in
set_option maxRecDepth 100000 in
theorem b_X9_worthOf {E : rhE} {Γ : rhG} {M : rhM} : ∀ (v0 : Nat) (v1 : Int64), rhF E 5 7 yX9_worthOf cX9_worthOf (some .int) Γ (rhe0I Γ M) (f_X9_worthOf Γ M v0 v1) 0 [(0, rhR v0), (1, rhJ v1)] [] Γ M := by
  intro v0 v1
  rw [f_X9_worthOf]
  refine rhF.iconst (pc := 0) (v := 0) dX9_worthOf_0 (by decide) ?_
  refine rhF.istore_n (pc := 1) (L' := [(3, rhI _), (0, rhR _), (1, rhJ _)]) dX9_worthOf_1 (by decide) rfl ?_
  refine rhF.iconst (pc := 2) (v := (-1)) dX9_worthOf_2 (by decide) ?_
  refine rhF.istore (pc := 3) (L' := [(4, rhI _), (3, rhI _), (0, rhR _), (1, rhJ _)]) dX9_worthOf_3 (by decide) rfl ?_
  refine rhF.iconst (pc := 5) (v := 0) dX9_worthOf_5 (by decide) ?_
  refine rhF.istore (pc := 6) (L' := [(5, rhI _), (4, rhI _), (3, rhI _), (0, rhR _), (1, rhJ _)]) dX9_worthOf_6 (by decide) rfl ?_
  refine rhF.sub [3, 4, 2, 1, 0] rfl ?_
  exact (b_X9_worthOf_8 rhFU) _ _ _ _ _
theorem c_X9_worthOf (E : rhE) (Γ : rhG) (M : rhM) (v0 : Nat) (v1 : Int64) : ∀ a, f_X9_worthOf Γ M v0 v1 = some a → rhC E 5 yX9_worthOf cX9_worthOf 7 (some .int) [rhR v0, rhJ v1] Γ M ((rhe0I Γ M) a) := rhF.met (by decide +kernel) (Nat.le_of_ble_eq_true rfl) (b_X9_worthOf v0 v1)
def f_X5_isMet (Γ : rhG) (M : rhM) (v0 : Nat) (v1 : Int32) (v2 : Int64) : Option (Int32 × rhM) :=
  rhck (Γ.2.2.1 v0 = 6) <|
  if (M.1 v0 6) = 0 then
    (if (v2 &&& (M.2.1 v0 8)) = (M.2.1 v0 7) then
      (some ((1, M)))
    else
      some ((0, M)))
  else
  if (M.1 v0 6) = 1 then
    ((f_X5_isAlone Γ M v0 v2).bind fun r5 =>
    rhck (r5 = 0 ∨ r5 = 1) <|
    some ((r5, M)))
  else
  rhck (Γ.2.2.1 (M.2.2 v0 5) = 10) <|
  (f_X9_worthOf Γ M (M.2.2 v0 5) v2).bind fun r8 =>
  (f_X5_keepBest Γ M v0 v1 r8).bind fun r9 =>
  some ((0, r9))
set_option maxHeartbeats 4000000 in
set_option maxRecDepth 100000 in
theorem b_X5_isMet {E : rhE} {Γ : rhG} : ∀ (M : rhM) (v0 : Nat) (v1 : Int32) (v2 : Int64), rhF E 6 4 yX5_isMet cX5_isMet (some .boolean) Γ (rhe1I Γ) (f_X5_isMet Γ M v0 v1 v2) 0 [(0, rhR v0), (1, rhI v1), (2, rhJ v2)] [] Γ M := by
  intro M v0 v1 v2
  rw [f_X5_isMet]
  refine rhF.aload_n (pc := 0) dX5_isMet_0 0 rfl ?_
  refine rhF.ck (fun h1 => ?_)
  refine rhF.get (pc := 1) (rhI _) dX5_isMet_1 fl_X5_49 h1 rfl ?_
  refine rhF.ite (fun h2 => ?_) (fun h2 => ?_)
  · refine rhF.ls (pc := 4) 32 dX5_isMet_4 (by decide) (by rw [h2] <;> rfl) (by decide) ?_
    refine rhF.lload_n (pc := 32) dX5_isMet_32 2 rfl ?_
    refine rhF.aload_n (pc := 33) dX5_isMet_33 0 rfl ?_
    refine rhF.get (pc := 34) (rhJ _) dX5_isMet_34 fl_X5_60 h1 rfl ?_
    refine rhF.land (pc := 37) dX5_isMet_37 ?_
    refine rhF.aload_n (pc := 38) dX5_isMet_38 0 rfl ?_
    refine rhF.get (pc := 39) (rhJ _) dX5_isMet_39 fl_X5_52 h1 rfl ?_
    refine rhF.lcne (pc := 42) 50 dX5_isMet_42 dX5_isMet_43 (by decide) (fun h3 => ?_) (fun h3 => ?_)
    · refine rhF.iconst (pc := 46) (v := 1) dX5_isMet_46 (by decide) ?_
      refine rhF.goto (pc := 47) 51 dX5_isMet_47 (by decide) ?_
      exact rhF.zret (pc := 51) dX5_isMet_51 rfl rfl rfl
    · refine rhF.iconst (pc := 50) (v := 0) dX5_isMet_50 (by decide) ?_
      exact rhF.zret (pc := 51) dX5_isMet_51 rfl rfl rfl
  · skip
    refine rhF.ite (fun h4 => ?_) (fun h4 => ?_)
    · refine rhF.ls (pc := 4) 52 dX5_isMet_4 (by decide) (by rw [h4] <;> rfl) (by decide) ?_
      refine rhF.aload_n (pc := 52) dX5_isMet_52 0 rfl ?_
      refine rhF.lload_n (pc := 53) dX5_isMet_53 2 rfl ?_
      refine rhF.callV (pc := 54) (ci := 5) (embc := rhe0I _ _) [rhJ _] dX5_isMet_54 ml_X5_157 mv_X5_isAlone ⟨_, rfl, rfl⟩ h1 (c_X5_isAlone _ _ _ _ _) (by decide) (by decide) rfl (Nat.le_of_ble_eq_true rfl) (fun r5 _ => ?_)
      refine rhF.ck (fun h6 => ?_)
      exact rhF.zret (pc := 57) dX5_isMet_57 rfl (rhzb h6) rfl
    · skip
      refine rhF.ls (pc := 4) 58 dX5_isMet_4 (by decide) (rhlkd _ _ _ (List.forall_mem_cons.mpr ⟨rhne h2 (n := 0) (by decide), List.forall_mem_cons.mpr ⟨rhne h4 (n := 1) (by decide), fun _ h => absurd h List.not_mem_nil⟩⟩)) (by decide) ?_
      refine rhF.aload_n (pc := 58) dX5_isMet_58 0 rfl ?_
      refine rhF.iload_n (pc := 59) dX5_isMet_59 1 rfl ?_
      refine rhF.aload_n (pc := 60) dX5_isMet_60 0 rfl ?_
      refine rhF.get (pc := 61) (rhR _) dX5_isMet_61 fl_X5_77 h1 rfl ?_
      refine rhF.lload_n (pc := 64) dX5_isMet_64 2 rfl ?_
      refine rhF.ck (fun h7 => ?_)
      refine rhF.callV (pc := 65) (ci := 9) (embc := rhe0I _ _) [rhJ _] dX5_isMet_65 ml_X5_161 mv_X9_worthOf ⟨_, rfl, rfl⟩ h7 (c_X9_worthOf _ _ _ _ _) (by decide) (by decide) rfl (Nat.le_of_ble_eq_true rfl) (fun r8 _ => ?_)
      refine rhF.callV (pc := 68) (ci := 5) (embc := rhe1U _) [rhI _, rhI _] dX5_isMet_68 ml_X5_164 mv_X5_keepBest ⟨_, rfl, rfl⟩ h1 (c_X5_keepBest _ _ _ _ _ _) (by decide) (by decide) rfl (Nat.le_of_ble_eq_true rfl) (fun r9 _ => ?_)
      refine rhF.iconst (pc := 71) (v := 0) dX5_isMet_71 (by decide) ?_
      exact rhF.zret (pc := 72) dX5_isMet_72 rfl rfl rfl
theorem c_X5_isMet (E : rhE) (Γ : rhG) (M : rhM) (v0 : Nat) (v1 : Int32) (v2 : Int64) : ∀ a, f_X5_isMet Γ M v0 v1 v2 = some a → rhC E 6 yX5_isMet cX5_isMet 4 (some .boolean) [rhR v0, rhI v1, rhJ v2] Γ M ((rhe1I Γ) a) := rhF.met (by decide +kernel) (Nat.le_of_ble_eq_true rfl) (b_X5_isMet M v0 v1 v2)
def f_X5_bestMet_58 (k14 : rhM → Nat → Int32 → Int32 → Int32 → Option (Int32 × rhM)) (Γ : rhG) (M : rhM) (v0 : Nat) (v2 : Int32) (v3 : Int32) (v4 : Int32) : Option (Int32 × rhM) :=
  rhck (Γ.2.2.1 v0 = 6) <|
  rhck (Γ.2.2.1 (M.2.2 v0 1) = 1) <|
  (f_X0_behind Γ M (M.2.2 v0 1) v3).bind fun r14 =>
  let x15 : Int32 := v4 + 1
  k14 M v0 v2 r14 x15
def f_X5_bestMet_14 (Γ : rhG) : Nat → rhM → Nat → Int32 → Int32 → Int32 → Option (Int32 × rhM)
  | 0, _, _, _, _, _ => none
  | n + 1, M, v0, v2, v3, v4 =>
    rhck (Γ.2.2.1 v0 = 6) <|
    rhck (Γ.2.2.1 (M.2.2 v0 1) = 1) <|
    if v4 < (M.1 (M.2.2 v0 1) 0) then
      (if v3 = 65535 then
        (some ((v2, M)))
      else
        rhck (Γ.2.2.1 (M.2.2 v0 2) = 11) <|
        (f_X10_wordOf Γ M (M.2.2 v0 2) v3).bind fun r9 =>
        (f_X5_isMet Γ M v0 v3 r9).bind fun r10 =>
        if r10.1 = 0 then
          (f_X5_bestMet_58 (f_X5_bestMet_14 Γ n) Γ r10.2 v0 v2 v3 v4)
        else
          rhck (Γ.2.2.1 (r10.2.2.2 v0 1) = 1) <|
          (f_X0_better Γ r10.2 (r10.2.2.2 v0 1) v3 v2).bind fun r17 =>
          f_X5_bestMet_58 (f_X5_bestMet_14 Γ n) Γ r10.2 v0 r17 v3 v4)
    else
      some ((v2, M))
def f_X5_bestMet (Γ : rhG) (M : rhM) (v0 : Nat) (v1 : Int32) : Option (Int32 × rhM) :=
  rhck (Γ.2.2.1 v0 = 6) <|
  rhck (Γ.2.2.1 (M.2.2 v0 1) = 1) <|
  (f_X0_headOf Γ M (M.2.2 v0 1) v1).bind fun r3 =>
  f_X5_bestMet_14 Γ rhFU M v0 ((-1)) r3 0
set_option maxHeartbeats 4000000 in
set_option maxRecDepth 100000 in
theorem b_X5_bestMet_58 {E : rhE} {Γ : rhG} {k14 : rhM → Nat → Int32 → Int32 → Int32 → Option (Int32 × rhM)} (hk14 : ∀ (M : rhM) (v0 : Nat) (v2 : Int32) (v3 : Int32) (v4 : Int32), rhF E 7 5 yX5_bestMet cX5_bestMet (some .int) Γ (rhe1I Γ) (k14 M v0 v2 v3 v4) 14 [(0, rhR v0), (2, rhI v2), (3, rhI v3), (4, rhI v4)] [] Γ M) : ∀ (M : rhM) (v0 : Nat) (v2 : Int32) (v3 : Int32) (v4 : Int32), rhF E 7 5 yX5_bestMet cX5_bestMet (some .int) Γ (rhe1I Γ) (f_X5_bestMet_58 k14 Γ M v0 v2 v3 v4) 58 [(0, rhR v0), (2, rhI v2), (3, rhI v3), (4, rhI v4)] [] Γ M := by
  intro M v0 v2 v3 v4
  rw [f_X5_bestMet_58]
  refine rhF.aload_n (pc := 58) dX5_bestMet_58 0 rfl ?_
  refine rhF.ck (fun h12 => ?_)
  refine rhF.get (pc := 59) (rhR _) dX5_bestMet_59 fl_X5_14 h12 rfl ?_
  refine rhF.iload_n (pc := 62) dX5_bestMet_62 2 rfl ?_
  refine rhF.ck (fun h13 => ?_)
  refine rhF.callV (pc := 63) (ci := 0) (embc := rhe0I _ _) [rhI _] dX5_bestMet_63 ml_X5_126 mv_X0_behind ⟨_, rfl, rfl⟩ h13 (c_X0_behind _ _ _ _ _) (by decide) (by decide) rfl (Nat.le_of_ble_eq_true rfl) (fun r14 _ => ?_)
  refine rhF.istore_n (pc := 66) (L' := [(3, rhI _), (0, rhR _), (2, rhI _), (4, rhI _)]) dX5_bestMet_66 (by decide) rfl ?_
  refine rhF.iinc (pc := 67) (L' := [(4, rhI _), (3, rhI _), (0, rhR _), (2, rhI _)]) dX5_bestMet_67 3 rfl rfl (by decide) rfl ?_
  refine rhF.goto (pc := 70) 14 dX5_bestMet_70 (by decide) ?_
  refine rhF.sub [2, 3, 1, 0] rfl ?_
  exact hk14 _ _ _ _ _
set_option maxHeartbeats 4000000 in
set_option maxRecDepth 100000 in
theorem b_X5_bestMet_14 {E : rhE} {Γ : rhG} : ∀ (n : Nat) (M : rhM) (v0 : Nat) (v2 : Int32) (v3 : Int32) (v4 : Int32), rhF E 7 5 yX5_bestMet cX5_bestMet (some .int) Γ (rhe1I Γ) (f_X5_bestMet_14 Γ n M v0 v2 v3 v4) 14 [(0, rhR v0), (2, rhI v2), (3, rhI v3), (4, rhI v4)] [] Γ M := by
  intro n
  induction n with
  | zero => intro M v0 v2 v3 v4; rw [f_X5_bestMet_14]; exact rhF.nope
  | succ n ih =>
    intro M v0 v2 v3 v4
    rw [f_X5_bestMet_14]
    refine rhF.iload (pc := 14) dX5_bestMet_14 3 rfl ?_
    refine rhF.aload_n (pc := 16) dX5_bestMet_16 0 rfl ?_
    refine rhF.ck (fun h4 => ?_)
    refine rhF.get (pc := 17) (rhR _) dX5_bestMet_17 fl_X5_14 h4 rfl ?_
    refine rhF.ck (fun h5 => ?_)
    refine rhF.get (pc := 20) (rhI _) dX5_bestMet_20 fl_X5_45 h5 rfl ?_
    refine rhF.icmp_ge (pc := 23) 73 dX5_bestMet_23 (by decide) (fun h6 => ?_) (fun h6 => ?_)
    · refine rhF.iload_n (pc := 26) dX5_bestMet_26 2 rfl ?_
      refine rhF.ldc (pc := 27) dX5_bestMet_27 k_X5_122 ?_
      refine rhF.icmp_eq (pc := 29) 73 dX5_bestMet_29 (by decide) (fun h7 => ?_) (fun h7 => ?_)
      · refine rhF.iload_n (pc := 73) dX5_bestMet_73 1 rfl ?_
        exact rhF.zret (pc := 74) dX5_bestMet_74 rfl rfl rfl
      · refine rhF.aload_n (pc := 32) dX5_bestMet_32 0 rfl ?_
        refine rhF.iload_n (pc := 33) dX5_bestMet_33 2 rfl ?_
        refine rhF.aload_n (pc := 34) dX5_bestMet_34 0 rfl ?_
        refine rhF.get (pc := 35) (rhR _) dX5_bestMet_35 fl_X5_23 h4 rfl ?_
        refine rhF.iload_n (pc := 38) dX5_bestMet_38 2 rfl ?_
        refine rhF.ck (fun h8 => ?_)
        refine rhF.callV (pc := 39) (ci := 10) (embc := rhe0J _ _) [rhI _] dX5_bestMet_39 ml_X5_129 mv_X10_wordOf ⟨_, rfl, rfl⟩ h8 (c_X10_wordOf _ _ _ _ _) (by decide) (by decide) rfl (Nat.le_of_ble_eq_true rfl) (fun r9 _ => ?_)
        refine rhF.callV (pc := 42) (ci := 5) (embc := rhe1I _) [rhI _, rhJ _] dX5_bestMet_42 ml_X5_118 mv_X5_isMet ⟨_, rfl, rfl⟩ h4 (c_X5_isMet _ _ _ _ _ _) (by decide) (by decide) rfl (Nat.le_of_ble_eq_true rfl) (fun r10 _ => ?_)
        refine rhF.if_eq (pc := 45) 58 dX5_bestMet_45 (by decide) (fun h11 => ?_) (fun h11 => ?_)
        · exact (b_X5_bestMet_58 ih) _ _ _ _ _
        · refine rhF.aload_n (pc := 48) dX5_bestMet_48 0 rfl ?_
          refine rhF.get (pc := 49) (rhR _) dX5_bestMet_49 fl_X5_14 h4 rfl ?_
          refine rhF.iload_n (pc := 52) dX5_bestMet_52 2 rfl ?_
          refine rhF.iload_n (pc := 53) dX5_bestMet_53 1 rfl ?_
          refine rhF.ck (fun h16 => ?_)
          refine rhF.callV (pc := 54) (ci := 0) (embc := rhe0I _ _) [rhI _, rhI _] dX5_bestMet_54 ml_X5_193 mv_X0_better ⟨_, rfl, rfl⟩ h16 (c_X0_better _ _ _ _ _ _) (by decide) (by decide) rfl (Nat.le_of_ble_eq_true rfl) (fun r17 _ => ?_)
          refine rhF.istore_n (pc := 57) (L' := [(2, rhI _), (0, rhR _), (3, rhI _), (4, rhI _)]) dX5_bestMet_57 (by decide) rfl ?_
          refine rhF.sub [1, 0, 2, 3] rfl ?_
          exact (b_X5_bestMet_58 ih) _ _ _ _ _
    · refine rhF.iload_n (pc := 73) dX5_bestMet_73 1 rfl ?_
      exact rhF.zret (pc := 74) dX5_bestMet_74 rfl rfl rfl
set_option maxHeartbeats 4000000 in
set_option maxRecDepth 100000 in
theorem b_X5_bestMet {E : rhE} {Γ : rhG} : ∀ (M : rhM) (v0 : Nat) (v1 : Int32), rhF E 7 5 yX5_bestMet cX5_bestMet (some .int) Γ (rhe1I Γ) (f_X5_bestMet Γ M v0 v1) 0 [(0, rhR v0), (1, rhI v1)] [] Γ M := by
  intro M v0 v1
  rw [f_X5_bestMet]
  refine rhF.iconst (pc := 0) (v := (-1)) dX5_bestMet_0 (by decide) ?_
  refine rhF.istore_n (pc := 1) (L' := [(2, rhI _), (0, rhR _), (1, rhI _)]) dX5_bestMet_1 (by decide) rfl ?_
  refine rhF.aload_n (pc := 2) dX5_bestMet_2 1 rfl ?_
  refine rhF.ck (fun h1 => ?_)
  refine rhF.get (pc := 3) (rhR _) dX5_bestMet_3 fl_X5_14 h1 rfl ?_
  refine rhF.iload_n (pc := 6) dX5_bestMet_6 2 rfl ?_
  refine rhF.ck (fun h2 => ?_)
  refine rhF.callV (pc := 7) (ci := 0) (embc := rhe0I _ _) [rhI _] dX5_bestMet_7 ml_X5_184 mv_X0_headOf ⟨_, rfl, rfl⟩ h2 (c_X0_headOf _ _ _ _ _) (by decide) (by decide) rfl (Nat.le_of_ble_eq_true rfl) (fun r3 _ => ?_)
  refine rhF.istore_n (pc := 10) (L' := [(3, rhI _), (2, rhI _), (0, rhR _), (1, rhI _)]) dX5_bestMet_10 (by decide) rfl ?_
  refine rhF.iconst (pc := 11) (v := 0) dX5_bestMet_11 (by decide) ?_
  refine rhF.istore (pc := 12) (L' := [(4, rhI _), (3, rhI _), (2, rhI _), (0, rhR _), (1, rhI _)]) dX5_bestMet_12 (by decide) rfl ?_
  refine rhF.sub [3, 2, 1, 0] rfl ?_
  exact (b_X5_bestMet_14 rhFU) _ _ _ _ _
theorem c_X5_bestMet (E : rhE) (Γ : rhG) (M : rhM) (v0 : Nat) (v1 : Int32) : ∀ a, f_X5_bestMet Γ M v0 v1 = some a → rhC E 7 yX5_bestMet cX5_bestMet 5 (some .int) [rhR v0, rhI v1] Γ M ((rhe1I Γ) a) := rhF.met (by decide +kernel) (Nat.le_of_ble_eq_true rfl) (b_X5_bestMet M v0 v1)
def f_X5_copyRow (Γ : rhG) (M : rhM) (v0 : Nat) (v1 : Int32) (v2 : Nat) : Option (rhG × rhM) :=
  rhck (Γ.2.2.1 v0 = 6) <|
  rhck (Γ.2.2.1 (M.2.2 v0 1) = 1) <|
  (f_X0_copyRow Γ M (M.2.2 v0 1) v1 v2).bind fun r3 =>
  some (r3.1, r3.2)
set_option maxHeartbeats 4000000 in
set_option maxRecDepth 100000 in
theorem b_X5_copyRow {E : rhE} {Γ0 : rhG} : ∀ (Γ : rhG) (M : rhM) (v0 : Nat) (v1 : Int32) (v2 : Nat), rhF E 7 3 yX5_copyRow cX5_copyRow none Γ0 rhe2U (f_X5_copyRow Γ M v0 v1 v2) 0 [(0, rhR v0), (1, rhI v1), (2, rhR v2)] [] Γ M := by
  intro Γ M v0 v1 v2
  rw [f_X5_copyRow]
  refine rhF.aload_n (pc := 0) dX5_copyRow_0 0 rfl ?_
  refine rhF.ck (fun h1 => ?_)
  refine rhF.get (pc := 1) (rhR _) dX5_copyRow_1 fl_X5_14 h1 rfl ?_
  refine rhF.iload_n (pc := 4) dX5_copyRow_4 1 rfl ?_
  refine rhF.aload_n (pc := 5) dX5_copyRow_5 2 rfl ?_
  refine rhF.ck (fun h2 => ?_)
  refine rhF.callV (pc := 6) (ci := 0) (embc := rhe2U) [rhI _, rhR _] dX5_copyRow_6 ml_X5_73 mv_X0_copyRow ⟨_, rfl, rfl⟩ h2 (c_X0_copyRow _ _ _ _ _ _) (by decide) (by decide) rfl (Nat.le_of_ble_eq_true rfl) (fun r3 _ => ?_)
  exact rhF.vret (pc := 9) dX5_copyRow_9 rfl rfl
theorem c_X5_copyRow (E : rhE) (Γ : rhG) (M : rhM) (v0 : Nat) (v1 : Int32) (v2 : Nat) : ∀ a, f_X5_copyRow Γ M v0 v1 v2 = some a → rhC E 7 yX5_copyRow cX5_copyRow 3 none [rhR v0, rhI v1, rhR v2] Γ M (rhe2U a) := rhF.met (by decide +kernel) (Nat.le_of_ble_eq_true rfl) (b_X5_copyRow (Γ0 := Γ) Γ M v0 v1 v2)
def f_X10_follow_75 (k2 : rhM → Nat → Int32 → Nat → Int32 → Option (rhM)) (Γ : rhG) (M : rhM) (v0 : Nat) (v1 : Int32) (v2 : Nat) (v3 : Int32) (s0 : Nat) (s1 : Int32) (s2 : Int32) (s3 : Int32) : Option (rhM) :=
  rhck (Γ.2.2.1 s0 = 15) <|
  rhck (0 ≤ (s1).toInt ∧ (s1).toInt < (Γ.2.2.2 s0 : Nat)) <|
  let M20 := rhsi M s0 (s1 : Int32).toNatClampNeg (s2 + s3)
  let x21 : Int32 := v3 + 1
  k2 M20 v0 v1 v2 x21
def f_X10_follow_2 (Γ : rhG) : Nat → rhM → Nat → Int32 → Nat → Int32 → Option (rhM)
  | 0, _, _, _, _, _ => none
  | n + 1, M, v0, v1, v2, v3 =>
    rhck (Γ.2.2.1 v2 = 8) <|
    if v3 < (M.1 v2 6) then
      (rhck (Γ.2.2.1 (M.2.2 v2 8) = 15) <|
      rhck (0 ≤ (v3).toInt ∧ (v3).toInt < (Γ.2.2.2 (M.2.2 v2 8) : Nat)) <|
      let x5 := M.1 (M.2.2 v2 8) v3.toNatClampNeg
      rhck (Γ.2.2.1 (M.2.2 v2 10) = 15) <|
      rhck (0 ≤ (v3).toInt ∧ (v3).toInt < (Γ.2.2.2 (M.2.2 v2 10) : Nat)) <|
      let x8 := M.1 (M.2.2 v2 10) v3.toNatClampNeg
      rhck (Γ.2.2.1 v0 = 11) <|
      rhck (Γ.2.2.1 (M.2.2 v2 9) = 15) <|
      rhck (0 ≤ (v3).toInt ∧ (v3).toInt < (Γ.2.2.2 (M.2.2 v2 9) : Nat)) <|
      rhck (Γ.2.2.1 (M.2.2 v0 4) = 15) <|
      rhck (0 ≤ ((x5 * 64) + (M.1 (M.2.2 v2 9) v3.toNatClampNeg)).toInt ∧ ((x5 * 64) + (M.1 (M.2.2 v2 9) v3.toNatClampNeg)).toInt < (Γ.2.2.2 (M.2.2 v0 4) : Nat)) <|
      let x14 := M.1 (M.2.2 v0 4) ((x5 * 64) + (M.1 (M.2.2 v2 9) v3.toNatClampNeg)).toNatClampNeg
      rhck (Γ.2.2.1 (M.2.2 v0 3) = 15) <|
      rhck (0 ≤ (x5).toInt ∧ (x5).toInt < (Γ.2.2.2 (M.2.2 v0 3) : Nat)) <|
      if 0 < x8 then
        (f_X10_follow_75 (f_X10_follow_2 Γ n) Γ M v0 v1 v2 v3 (M.2.2 v2 11) v3 (v1 + (x8 * (M.1 (M.2.2 v0 3) x5.toNatClampNeg))) x14)
      else
        f_X10_follow_75 (f_X10_follow_2 Γ n) Γ M v0 v1 v2 v3 (M.2.2 v2 11) v3 (v1 + (x8 * (M.1 (M.2.2 v0 3) x5.toNatClampNeg))) (-x14))
    else
      some M
def f_X10_follow (Γ : rhG) (M : rhM) (v0 : Nat) (v1 : Int32) (v2 : Nat) : Option (rhM) :=
  f_X10_follow_2 Γ rhFU M v0 v1 v2 0
set_option maxHeartbeats 4000000 in
set_option maxRecDepth 100000 in
theorem b_X10_follow_75 {E : rhE} {Γ : rhG} {k2 : rhM → Nat → Int32 → Nat → Int32 → Option (rhM)} (hk2 : ∀ (M : rhM) (v0 : Nat) (v1 : Int32) (v2 : Nat) (v3 : Int32), rhF E 1 7 yX10_follow cX10_follow none Γ (rhe1U Γ) (k2 M v0 v1 v2 v3) 2 [(0, rhR v0), (1, rhI v1), (2, rhR v2), (3, rhI v3)] [] Γ M) : ∀ (M : rhM) (v0 : Nat) (v1 : Int32) (v2 : Nat) (v3 : Int32) (s0 : Nat) (s1 : Int32) (s2 : Int32) (s3 : Int32), rhF E 1 7 yX10_follow cX10_follow none Γ (rhe1U Γ) (f_X10_follow_75 k2 Γ M v0 v1 v2 v3 s0 s1 s2 s3) 75 [(0, rhR v0), (1, rhI v1), (2, rhR v2), (3, rhI v3)] [rhI s3, rhI s2, rhI s1, rhR s0] Γ M := by
  intro M v0 v1 v2 v3 s0 s1 s2 s3
  rw [f_X10_follow_75]
  refine rhF.iadd (pc := 75) dX10_follow_75 ?_
  refine rhF.ck (fun h18 => ?_)
  refine rhF.ck (fun h19 => ?_)
  refine rhF.iast (pc := 76) dX10_follow_76 h18 h19 ?_
  refine rhF.iinc (pc := 77) (L' := [(3, rhI _), (0, rhR _), (1, rhI _), (2, rhR _)]) dX10_follow_77 3 rfl rfl (by decide) rfl ?_
  refine rhF.goto (pc := 80) 2 dX10_follow_80 (by decide) ?_
  refine rhF.sub [1, 2, 3, 0] rfl ?_
  exact hk2 _ _ _ _ _
set_option maxHeartbeats 4000000 in
set_option maxRecDepth 100000 in
theorem b_X10_follow_2 {E : rhE} {Γ : rhG} : ∀ (n : Nat) (M : rhM) (v0 : Nat) (v1 : Int32) (v2 : Nat) (v3 : Int32), rhF E 1 7 yX10_follow cX10_follow none Γ (rhe1U Γ) (f_X10_follow_2 Γ n M v0 v1 v2 v3) 2 [(0, rhR v0), (1, rhI v1), (2, rhR v2), (3, rhI v3)] [] Γ M := by
  intro n
  induction n with
  | zero => intro M v0 v1 v2 v3; rw [f_X10_follow_2]; exact rhF.nope
  | succ n ih =>
    intro M v0 v1 v2 v3
    rw [f_X10_follow_2]
    refine rhF.iload_n (pc := 2) dX10_follow_2 3 rfl ?_
    refine rhF.aload_n (pc := 3) dX10_follow_3 2 rfl ?_
    refine rhF.ck (fun h1 => ?_)
    refine rhF.get (pc := 4) (rhI _) dX10_follow_4 fl_X10_59 h1 rfl ?_
    refine rhF.icmp_ge (pc := 7) 83 dX10_follow_7 (by decide) (fun h2 => ?_) (fun h2 => ?_)
    · refine rhF.aload_n (pc := 10) dX10_follow_10 2 rfl ?_
      refine rhF.get (pc := 11) (rhR _) dX10_follow_11 fl_X10_62 h1 rfl ?_
      refine rhF.iload_n (pc := 14) dX10_follow_14 3 rfl ?_
      refine rhF.ck (fun h3 => ?_)
      refine rhF.ck (fun h4 => ?_)
      refine rhF.iald (pc := 15) dX10_follow_15 h3 h4 ?_
      refine rhF.istore (pc := 16) (L' := [(4, rhI _), (0, rhR _), (1, rhI _), (2, rhR _), (3, rhI _)]) dX10_follow_16 (by decide) rfl ?_
      refine rhF.aload_n (pc := 18) dX10_follow_18 3 rfl ?_
      refine rhF.get (pc := 19) (rhR _) dX10_follow_19 fl_X10_65 h1 rfl ?_
      refine rhF.iload_n (pc := 22) dX10_follow_22 4 rfl ?_
      refine rhF.ck (fun h6 => ?_)
      refine rhF.ck (fun h7 => ?_)
      refine rhF.iald (pc := 23) dX10_follow_23 h6 h7 ?_
      refine rhF.istore (pc := 24) (L' := [(5, rhI _), (4, rhI _), (0, rhR _), (1, rhI _), (2, rhR _), (3, rhI _)]) dX10_follow_24 (by decide) rfl ?_
      refine rhF.aload_n (pc := 26) dX10_follow_26 2 rfl ?_
      refine rhF.ck (fun h9 => ?_)
      refine rhF.get (pc := 27) (rhR _) dX10_follow_27 fl_X10_18 h9 rfl ?_
      refine rhF.iload (pc := 30) dX10_follow_30 1 rfl ?_
      refine rhF.bipush (pc := 32) (v := 64) dX10_follow_32 (by decide) ?_
      refine rhF.imul (pc := 34) dX10_follow_34 ?_
      refine rhF.aload_n (pc := 35) dX10_follow_35 4 rfl ?_
      refine rhF.get (pc := 36) (rhR _) dX10_follow_36 fl_X10_68 h1 rfl ?_
      refine rhF.iload_n (pc := 39) dX10_follow_39 5 rfl ?_
      refine rhF.ck (fun h10 => ?_)
      refine rhF.ck (fun h11 => ?_)
      refine rhF.iald (pc := 40) dX10_follow_40 h10 h11 ?_
      refine rhF.iadd (pc := 41) dX10_follow_41 ?_
      refine rhF.ck (fun h12 => ?_)
      refine rhF.ck (fun h13 => ?_)
      refine rhF.iald (pc := 42) dX10_follow_42 h12 h13 ?_
      refine rhF.istore (pc := 43) (L' := [(6, rhI _), (5, rhI _), (4, rhI _), (0, rhR _), (1, rhI _), (2, rhR _), (3, rhI _)]) dX10_follow_43 (by decide) rfl ?_
      refine rhF.aload_n (pc := 45) dX10_follow_45 5 rfl ?_
      refine rhF.get (pc := 46) (rhR _) dX10_follow_46 fl_X10_71 h1 rfl ?_
      refine rhF.iload_n (pc := 49) dX10_follow_49 6 rfl ?_
      refine rhF.iload_n (pc := 50) dX10_follow_50 4 rfl ?_
      refine rhF.iload (pc := 51) dX10_follow_51 1 rfl ?_
      refine rhF.aload_n (pc := 53) dX10_follow_53 3 rfl ?_
      refine rhF.get (pc := 54) (rhR _) dX10_follow_54 fl_X10_15 h9 rfl ?_
      refine rhF.iload (pc := 57) dX10_follow_57 2 rfl ?_
      refine rhF.ck (fun h15 => ?_)
      refine rhF.ck (fun h16 => ?_)
      refine rhF.iald (pc := 59) dX10_follow_59 h15 h16 ?_
      refine rhF.imul (pc := 60) dX10_follow_60 ?_
      refine rhF.iadd (pc := 61) dX10_follow_61 ?_
      refine rhF.iload (pc := 62) dX10_follow_62 1 rfl ?_
      refine rhF.if_le (pc := 64) 72 dX10_follow_64 (by decide) (fun h17 => ?_) (fun h17 => ?_)
      · refine rhF.iload (pc := 67) dX10_follow_67 0 rfl ?_
        refine rhF.goto (pc := 69) 75 dX10_follow_69 (by decide) ?_
        refine rhF.sub [3, 4, 5, 6] rfl ?_
        exact (b_X10_follow_75 ih) _ _ _ _ _ _ _ _ _
      · refine rhF.iload (pc := 72) dX10_follow_72 0 rfl ?_
        refine rhF.ineg (pc := 74) dX10_follow_74 ?_
        refine rhF.sub [3, 4, 5, 6] rfl ?_
        exact (b_X10_follow_75 ih) _ _ _ _ _ _ _ _ _
    · exact rhF.vret (pc := 83) dX10_follow_83 rfl rfl
set_option maxHeartbeats 4000000 in
set_option maxRecDepth 100000 in
theorem b_X10_follow {E : rhE} {Γ : rhG} : ∀ (M : rhM) (v0 : Nat) (v1 : Int32) (v2 : Nat), rhF E 1 7 yX10_follow cX10_follow none Γ (rhe1U Γ) (f_X10_follow Γ M v0 v1 v2) 0 [(0, rhR v0), (1, rhI v1), (2, rhR v2)] [] Γ M := by
  intro M v0 v1 v2
  rw [f_X10_follow]
  refine rhF.iconst (pc := 0) (v := 0) dX10_follow_0 (by decide) ?_
  refine rhF.istore_n (pc := 1) (L' := [(3, rhI _), (0, rhR _), (1, rhI _), (2, rhR _)]) dX10_follow_1 (by decide) rfl ?_
  refine rhF.sub [1, 2, 3, 0] rfl ?_
  exact (b_X10_follow_2 rhFU) _ _ _ _ _
theorem c_X10_follow (E : rhE) (Γ : rhG) (M : rhM) (v0 : Nat) (v1 : Int32) (v2 : Nat) : ∀ a, f_X10_follow Γ M v0 v1 v2 = some a → rhC E 1 yX10_follow cX10_follow 7 none [rhR v0, rhI v1, rhR v2] Γ M ((rhe1U Γ) a) := rhF.met (by decide +kernel) (Nat.le_of_ble_eq_true rfl) (b_X10_follow M v0 v1 v2)
def f_X7_unite_4 (Γ : rhG) : Nat → rhM → Nat → Int32 → Int32 → Option (rhM)
  | 0, _, _, _, _ => none
  | n + 1, M, v0, v1, v2 =>
    rhck (Γ.2.2.1 v0 = 8) <|
    if v2 < (M.1 v0 1) then
      (rhck (Γ.2.2.1 (M.2.2 v0 4) = 15) <|
      rhck (0 ≤ (v2).toInt ∧ (v2).toInt < (Γ.2.2.2 (M.2.2 v0 4) : Nat)) <|
      let x5 := v1 ||| (M.1 (M.2.2 v0 4) v2.toNatClampNeg)
      rhck (Γ.2.2.1 (M.2.2 v0 5) = 15) <|
      rhck (0 ≤ (v2).toInt ∧ (v2).toInt < (Γ.2.2.2 (M.2.2 v0 5) : Nat)) <|
      let M8 := rhsi M (M.2.2 v0 5) (v2 : Int32).toNatClampNeg x5
      let x9 : Int32 := v2 + 1
      f_X7_unite_4 Γ n M8 v0 x5 x9)
    else
      some M
def f_X7_unite (Γ : rhG) (M : rhM) (v0 : Nat) : Option (rhM) :=
  f_X7_unite_4 Γ rhFU M v0 0 0
set_option maxHeartbeats 4000000 in
set_option maxRecDepth 100000 in
theorem b_X7_unite_4 {E : rhE} {Γ : rhG} : ∀ (n : Nat) (M : rhM) (v0 : Nat) (v1 : Int32) (v2 : Int32), rhF E 1 3 yX7_unite cX7_unite none Γ (rhe1U Γ) (f_X7_unite_4 Γ n M v0 v1 v2) 4 [(0, rhR v0), (1, rhI v1), (2, rhI v2)] [] Γ M := by
  intro n
  induction n with
  | zero => intro M v0 v1 v2; rw [f_X7_unite_4]; exact rhF.nope
  | succ n ih =>
    intro M v0 v1 v2
    rw [f_X7_unite_4]
    refine rhF.iload_n (pc := 4) dX7_unite_4 2 rfl ?_
    refine rhF.aload_n (pc := 5) dX7_unite_5 0 rfl ?_
    refine rhF.ck (fun h1 => ?_)
    refine rhF.get (pc := 6) (rhI _) dX7_unite_6 fl_X7_49 h1 rfl ?_
    refine rhF.icmp_ge (pc := 9) 34 dX7_unite_9 (by decide) (fun h2 => ?_) (fun h2 => ?_)
    · refine rhF.iload_n (pc := 12) dX7_unite_12 1 rfl ?_
      refine rhF.aload_n (pc := 13) dX7_unite_13 0 rfl ?_
      refine rhF.get (pc := 14) (rhR _) dX7_unite_14 fl_X7_18 h1 rfl ?_
      refine rhF.iload_n (pc := 17) dX7_unite_17 2 rfl ?_
      refine rhF.ck (fun h3 => ?_)
      refine rhF.ck (fun h4 => ?_)
      refine rhF.iald (pc := 18) dX7_unite_18 h3 h4 ?_
      refine rhF.ior (pc := 19) dX7_unite_19 ?_
      refine rhF.istore_n (pc := 20) (L' := [(1, rhI _), (0, rhR _), (2, rhI _)]) dX7_unite_20 (by decide) rfl ?_
      refine rhF.aload_n (pc := 21) dX7_unite_21 1 rfl ?_
      refine rhF.get (pc := 22) (rhR _) dX7_unite_22 fl_X7_21 h1 rfl ?_
      refine rhF.iload_n (pc := 25) dX7_unite_25 2 rfl ?_
      refine rhF.iload_n (pc := 26) dX7_unite_26 0 rfl ?_
      refine rhF.ck (fun h6 => ?_)
      refine rhF.ck (fun h7 => ?_)
      refine rhF.iast (pc := 27) dX7_unite_27 h6 h7 ?_
      refine rhF.iinc (pc := 28) (L' := [(2, rhI _), (1, rhI _), (0, rhR _)]) dX7_unite_28 2 rfl rfl (by decide) rfl ?_
      refine rhF.goto (pc := 31) 4 dX7_unite_31 (by decide) ?_
      refine rhF.sub [2, 1, 0] rfl ?_
      exact ih _ _ _ _
    · exact rhF.vret (pc := 34) dX7_unite_34 rfl rfl
set_option maxHeartbeats 4000000 in
set_option maxRecDepth 100000 in
theorem b_X7_unite {E : rhE} {Γ : rhG} : ∀ (M : rhM) (v0 : Nat), rhF E 1 3 yX7_unite cX7_unite none Γ (rhe1U Γ) (f_X7_unite Γ M v0) 0 [(0, rhR v0)] [] Γ M := by
  intro M v0
  rw [f_X7_unite]
  refine rhF.iconst (pc := 0) (v := 0) dX7_unite_0 (by decide) ?_
  refine rhF.istore_n (pc := 1) (L' := [(1, rhI _), (0, rhR _)]) dX7_unite_1 (by decide) rfl ?_
  refine rhF.iconst (pc := 2) (v := 0) dX7_unite_2 (by decide) ?_
  refine rhF.istore_n (pc := 3) (L' := [(2, rhI _), (1, rhI _), (0, rhR _)]) dX7_unite_3 (by decide) rfl ?_
  refine rhF.sub [2, 1, 0] rfl ?_
  exact (b_X7_unite_4 rhFU) _ _ _ _
theorem c_X7_unite (E : rhE) (Γ : rhG) (M : rhM) (v0 : Nat) : ∀ a, f_X7_unite Γ M v0 = some a → rhC E 1 yX7_unite cX7_unite 3 none [rhR v0] Γ M ((rhe1U Γ) a) := rhF.met (by decide +kernel) (Nat.le_of_ble_eq_true rfl) (b_X7_unite M v0)
def f_X7_listPulls_184 (k65 : rhM → Nat → Nat → Int32 → Int32 → Int32 → Int32 → Int32 → Option (rhM)) (Γ : rhG) (M : rhM) (v0 : Nat) (v1 : Nat) (v2 : Int32) (v3 : Int32) (v4 : Int32) (v5 : Int32) (v6 : Int32) : Option (rhM) :=
  let x19 : Int32 := v6 + 1
  k65 M v0 v1 v2 v3 v4 v5 x19
def f_X7_listPulls_65 (k190 : rhM → Nat → Nat → Int32 → Int32 → Int32 → Int32 → Option (rhM)) (Γ : rhG) : Nat → rhM → Nat → Nat → Int32 → Int32 → Int32 → Int32 → Int32 → Option (rhM)
  | 0, _, _, _, _, _, _, _, _ => none
  | n + 1, M, v0, v1, v2, v3, v4, v5, v6 =>
    rhck (Γ.2.2.1 v0 = 8) <|
    if v6 < (M.1 v0 1) then
      (if v6 = v2 then
        (f_X7_listPulls_184 (f_X7_listPulls_65 k190 Γ n) Γ M v0 v1 v2 v3 v4 v5 v6)
      else
        if (M.1 v0 6) < 32 then
          (rhck (Γ.2.2.1 (M.2.2 v0 4) = 15) <|
          rhck (0 ≤ (v6).toInt ∧ (v6).toInt < (Γ.2.2.2 (M.2.2 v0 4) : Nat)) <|
          rhck (Γ.2.2.1 v1 = 3) <|
          (f_X2_allows Γ M v1 v2 v3 v6 (M.1 (M.2.2 v0 4) v6.toNatClampNeg)).bind fun r24 =>
          if r24.1 = 0 then
            (f_X7_listPulls_184 (f_X7_listPulls_65 k190 Γ n) Γ r24.2 v0 v1 v2 v3 v4 v5 v6)
          else
            (f_X3_code Γ r24.2 v2 v4 v6).bind fun r26 =>
            rhck (Γ.2.2.1 (r24.2.2.2 v0 7) = 15) <|
            rhck (0 ≤ (r24.2.1 v0 6).toInt ∧ (r24.2.1 v0 6).toInt < (Γ.2.2.2 (r24.2.2.2 v0 7) : Nat)) <|
            let M29 := rhsi r24.2 (r24.2.2.2 v0 7) (r24.2.1 v0 6 : Int32).toNatClampNeg r26
            rhck (Γ.2.2.1 (r24.2.2.2 v0 8) = 15) <|
            rhck (0 ≤ (M29.1 v0 6).toInt ∧ (M29.1 v0 6).toInt < (Γ.2.2.2 (r24.2.2.2 v0 8) : Nat)) <|
            let M32 := rhsi M29 (r24.2.2.2 v0 8) (M29.1 v0 6 : Int32).toNatClampNeg v3
            rhck (Γ.2.2.1 (r24.2.2.2 v0 5) = 15) <|
            rhck (0 ≤ (v2).toInt ∧ (v2).toInt < (Γ.2.2.2 (r24.2.2.2 v0 5) : Nat)) <|
            rhck (0 ≤ (v6).toInt ∧ (v6).toInt < (Γ.2.2.2 (r24.2.2.2 v0 5) : Nat)) <|
            rhck (Γ.2.2.1 (r24.2.2.2 v0 9) = 15) <|
            rhck (0 ≤ (M32.1 v0 6).toInt ∧ (M32.1 v0 6).toInt < (Γ.2.2.2 (r24.2.2.2 v0 9) : Nat)) <|
            let M38 := rhsi M32 (r24.2.2.2 v0 9) (M32.1 v0 6 : Int32).toNatClampNeg (((M32.1 (r24.2.2.2 v0 5) v2.toNatClampNeg) ^^^ (M32.1 (r24.2.2.2 v0 5) v6.toNatClampNeg)) &&& (v3 ^^^ ((-1))))
            rhck (Γ.2.2.1 (r24.2.2.2 v0 10) = 15) <|
            rhck (0 ≤ (M38.1 v0 6).toInt ∧ (M38.1 v0 6).toInt < (Γ.2.2.2 (r24.2.2.2 v0 10) : Nat)) <|
            let M41 := rhsi M38 (r24.2.2.2 v0 10) (M38.1 v0 6 : Int32).toNatClampNeg (v6 - v2)
            let M42 := rhsi M41 v0 6 ((M41.1 v0 6) + 1)
            f_X7_listPulls_184 (f_X7_listPulls_65 k190 Γ n) Γ M42 v0 v1 v2 v3 v4 v5 v6)
        else
          f_X7_listPulls_184 (f_X7_listPulls_65 k190 Γ n) Γ M v0 v1 v2 v3 v4 v5 v6)
    else
      k190 M v0 v1 v2 v3 v4 v5
def f_X7_listPulls_190 (k34 : rhM → Nat → Nat → Int32 → Int32 → Int32 → Int32 → Option (rhM)) (Γ : rhG) (M : rhM) (v0 : Nat) (v1 : Nat) (v2 : Int32) (v3 : Int32) (v4 : Int32) (v5 : Int32) : Option (rhM) :=
  let x43 : Int32 := v5 + (-1)
  k34 M v0 v1 v2 v3 v4 x43
def f_X7_listPulls_34 (k196 : rhM → Nat → Nat → Int32 → Option (rhM)) (Γ : rhG) : Nat → rhM → Nat → Nat → Int32 → Int32 → Int32 → Int32 → Option (rhM)
  | 0, _, _, _, _, _, _, _ => none
  | n + 1, M, v0, v1, v2, v3, v4, v5 =>
    rhck (Γ.2.2.1 v0 = 8) <|
    rhck (Γ.2.2.1 (M.2.2 v0 2) = 15) <|
    rhck (0 ≤ (v2).toInt ∧ (v2).toInt < (Γ.2.2.2 (M.2.2 v0 2) : Nat)) <|
    if v5 < (M.1 (M.2.2 v0 2) v2.toNatClampNeg) then
      (k196 M v0 v1 v2)
    else
      (f_X7_digitOf Γ M (M.2.1 v0 0) v5).bind fun r13 =>
      let x14 := v3 ||| (1 <<< (r13 &&& 31))
      let x15 : Int32 := v4 + 1
      f_X7_listPulls_65 (f_X7_listPulls_190 (f_X7_listPulls_34 k196 Γ n) Γ) Γ rhFU M v0 v1 v2 x14 x15 v5 0
def f_X7_listPulls_196 (k11 : rhM → Nat → Nat → Int32 → Option (rhM)) (Γ : rhG) (M : rhM) (v0 : Nat) (v1 : Nat) (v2 : Int32) : Option (rhM) :=
  let x44 : Int32 := v2 + 1
  k11 M v0 v1 x44
def f_X7_listPulls_11 (Γ : rhG) : Nat → rhM → Nat → Nat → Int32 → Option (rhM)
  | 0, _, _, _, _ => none
  | n + 1, M, v0, v1, v2 =>
    rhck (Γ.2.2.1 v0 = 8) <|
    if v2 < (M.1 v0 1) then
      (rhck (Γ.2.2.1 (M.2.2 v0 3) = 15) <|
      rhck (0 ≤ (v2).toInt ∧ (v2).toInt < (Γ.2.2.2 (M.2.2 v0 3) : Nat)) <|
      let x8 := (M.1 (M.2.2 v0 3) v2.toNatClampNeg) - 1
      f_X7_listPulls_34 (f_X7_listPulls_196 (f_X7_listPulls_11 Γ n) Γ) Γ rhFU M v0 v1 v2 0 0 x8)
    else
      some M
def f_X7_listPulls (Γ : rhG) (M : rhM) (v0 : Nat) (v1 : Nat) : Option (rhM) :=
  rhck (Γ.2.2.1 v0 = 8) <|
  let M2 := rhsi M v0 6 0
  (f_X7_unite Γ M2 v0).bind fun r3 =>
  f_X7_listPulls_11 Γ rhFU r3 v0 v1 0
set_option maxHeartbeats 4000000 in
set_option maxRecDepth 100000 in
theorem b_X7_listPulls_184 {E : rhE} {Γ : rhG} {k65 : rhM → Nat → Nat → Int32 → Int32 → Int32 → Int32 → Int32 → Option (rhM)} (hk65 : ∀ (M : rhM) (v0 : Nat) (v1 : Nat) (v2 : Int32) (v3 : Int32) (v4 : Int32) (v5 : Int32) (v6 : Int32), rhF E 8 7 yX7_listPulls cX7_listPulls none Γ (rhe1U Γ) (k65 M v0 v1 v2 v3 v4 v5 v6) 65 [(0, rhR v0), (1, rhR v1), (2, rhI v2), (3, rhI v3), (4, rhI v4), (5, rhI v5), (6, rhI v6)] [] Γ M) : ∀ (M : rhM) (v0 : Nat) (v1 : Nat) (v2 : Int32) (v3 : Int32) (v4 : Int32) (v5 : Int32) (v6 : Int32), rhF E 8 7 yX7_listPulls cX7_listPulls none Γ (rhe1U Γ) (f_X7_listPulls_184 k65 Γ M v0 v1 v2 v3 v4 v5 v6) 184 [(0, rhR v0), (1, rhR v1), (2, rhI v2), (3, rhI v3), (4, rhI v4), (5, rhI v5), (6, rhI v6)] [] Γ M := by
  intro M v0 v1 v2 v3 v4 v5 v6
  rw [f_X7_listPulls_184]
  refine rhF.iinc (pc := 184) (L' := [(6, rhI _), (0, rhR _), (1, rhR _), (2, rhI _), (3, rhI _), (4, rhI _), (5, rhI _)]) dX7_listPulls_184 6 rfl rfl (by decide) rfl ?_
  refine rhF.goto (pc := 187) 65 dX7_listPulls_187 (by decide) ?_
  refine rhF.sub [1, 2, 3, 4, 5, 6, 0] rfl ?_
  exact hk65 _ _ _ _ _ _ _ _
set_option maxHeartbeats 4000000 in
set_option maxRecDepth 100000 in
theorem b_X7_listPulls_65 {E : rhE} {Γ : rhG} {k190 : rhM → Nat → Nat → Int32 → Int32 → Int32 → Int32 → Option (rhM)} (hk190 : ∀ (M : rhM) (v0 : Nat) (v1 : Nat) (v2 : Int32) (v3 : Int32) (v4 : Int32) (v5 : Int32), rhF E 8 7 yX7_listPulls cX7_listPulls none Γ (rhe1U Γ) (k190 M v0 v1 v2 v3 v4 v5) 190 [(0, rhR v0), (1, rhR v1), (2, rhI v2), (3, rhI v3), (4, rhI v4), (5, rhI v5)] [] Γ M) : ∀ (n : Nat) (M : rhM) (v0 : Nat) (v1 : Nat) (v2 : Int32) (v3 : Int32) (v4 : Int32) (v5 : Int32) (v6 : Int32), rhF E 8 7 yX7_listPulls cX7_listPulls none Γ (rhe1U Γ) (f_X7_listPulls_65 k190 Γ n M v0 v1 v2 v3 v4 v5 v6) 65 [(0, rhR v0), (1, rhR v1), (2, rhI v2), (3, rhI v3), (4, rhI v4), (5, rhI v5), (6, rhI v6)] [] Γ M := by
  intro n
  induction n with
  | zero => intro M v0 v1 v2 v3 v4 v5 v6; rw [f_X7_listPulls_65]; exact rhF.nope
  | succ n ih =>
    intro M v0 v1 v2 v3 v4 v5 v6
    rw [f_X7_listPulls_65]
    refine rhF.iload (pc := 65) dX7_listPulls_65 6 rfl ?_
    refine rhF.aload_n (pc := 67) dX7_listPulls_67 0 rfl ?_
    refine rhF.ck (fun h16 => ?_)
    refine rhF.get (pc := 68) (rhI _) dX7_listPulls_68 fl_X7_49 h16 rfl ?_
    refine rhF.icmp_ge (pc := 71) 190 dX7_listPulls_71 (by decide) (fun h17 => ?_) (fun h17 => ?_)
    · refine rhF.iload (pc := 74) dX7_listPulls_74 6 rfl ?_
      refine rhF.iload_n (pc := 76) dX7_listPulls_76 2 rfl ?_
      refine rhF.icmp_eq (pc := 77) 184 dX7_listPulls_77 (by decide) (fun h18 => ?_) (fun h18 => ?_)
      · exact (b_X7_listPulls_184 ih) _ _ _ _ _ _ _ _
      · refine rhF.aload_n (pc := 80) dX7_listPulls_80 0 rfl ?_
        refine rhF.get (pc := 81) (rhI _) dX7_listPulls_81 fl_X7_83 h16 rfl ?_
        refine rhF.bipush (pc := 84) (v := 32) dX7_listPulls_84 (by decide) ?_
        refine rhF.icmp_ge (pc := 86) 184 dX7_listPulls_86 (by decide) (fun h20 => ?_) (fun h20 => ?_)
        · refine rhF.aload_n (pc := 89) dX7_listPulls_89 1 rfl ?_
          refine rhF.iload_n (pc := 90) dX7_listPulls_90 2 rfl ?_
          refine rhF.iload_n (pc := 91) dX7_listPulls_91 3 rfl ?_
          refine rhF.iload (pc := 92) dX7_listPulls_92 6 rfl ?_
          refine rhF.aload_n (pc := 94) dX7_listPulls_94 0 rfl ?_
          refine rhF.get (pc := 95) (rhR _) dX7_listPulls_95 fl_X7_18 h16 rfl ?_
          refine rhF.iload (pc := 98) dX7_listPulls_98 6 rfl ?_
          refine rhF.ck (fun h21 => ?_)
          refine rhF.ck (fun h22 => ?_)
          refine rhF.iald (pc := 100) dX7_listPulls_100 h21 h22 ?_
          refine rhF.ck (fun h23 => ?_)
          refine rhF.callV (pc := 101) (ci := 2) (embc := rhe1I _) [rhI _, rhI _, rhI _, rhI _] dX7_listPulls_101 ml_X7_89 mv_X2_allows ⟨_, rfl, rfl⟩ h23 (c_X2_allows _ _ _ _ _ _ _ _) (by decide) (by decide) rfl (Nat.le_of_ble_eq_true rfl) (fun r24 _ => ?_)
          refine rhF.if_eq (pc := 104) 184 dX7_listPulls_104 (by decide) (fun h25 => ?_) (fun h25 => ?_)
          · exact (b_X7_listPulls_184 ih) _ _ _ _ _ _ _ _
          · refine rhF.aload_n (pc := 107) dX7_listPulls_107 0 rfl ?_
            refine rhF.get (pc := 108) (rhR _) dX7_listPulls_108 fl_X7_24 h16 rfl ?_
            refine rhF.aload_n (pc := 111) dX7_listPulls_111 0 rfl ?_
            refine rhF.get (pc := 112) (rhI _) dX7_listPulls_112 fl_X7_83 h16 rfl ?_
            refine rhF.iload_n (pc := 115) dX7_listPulls_115 2 rfl ?_
            refine rhF.iload (pc := 116) dX7_listPulls_116 4 rfl ?_
            refine rhF.iload (pc := 118) dX7_listPulls_118 6 rfl ?_
            refine rhF.callS (pc := 120) (embc := rhe0I _ _) [rhI _, rhI _, rhI _] dX7_listPulls_120 ml_X7_95 ms_X3_code (c_X3_code _ _ _ _ _ _) (by decide) (by decide) rfl (Nat.le_of_ble_eq_true rfl) (fun r26 _ => ?_)
            refine rhF.ck (fun h27 => ?_)
            refine rhF.ck (fun h28 => ?_)
            refine rhF.iast (pc := 123) dX7_listPulls_123 h27 h28 ?_
            refine rhF.aload_n (pc := 124) dX7_listPulls_124 0 rfl ?_
            refine rhF.get (pc := 125) (rhR _) dX7_listPulls_125 fl_X7_27 h16 rfl ?_
            refine rhF.aload_n (pc := 128) dX7_listPulls_128 0 rfl ?_
            refine rhF.get (pc := 129) (rhI _) dX7_listPulls_129 fl_X7_83 h16 rfl ?_
            refine rhF.iload_n (pc := 132) dX7_listPulls_132 3 rfl ?_
            refine rhF.ck (fun h30 => ?_)
            refine rhF.ck (fun h31 => ?_)
            refine rhF.iast (pc := 133) dX7_listPulls_133 h30 h31 ?_
            refine rhF.aload_n (pc := 134) dX7_listPulls_134 0 rfl ?_
            refine rhF.get (pc := 135) (rhR _) dX7_listPulls_135 fl_X7_30 h16 rfl ?_
            refine rhF.aload_n (pc := 138) dX7_listPulls_138 0 rfl ?_
            refine rhF.get (pc := 139) (rhI _) dX7_listPulls_139 fl_X7_83 h16 rfl ?_
            refine rhF.aload_n (pc := 142) dX7_listPulls_142 0 rfl ?_
            refine rhF.get (pc := 143) (rhR _) dX7_listPulls_143 fl_X7_21 h16 rfl ?_
            refine rhF.iload_n (pc := 146) dX7_listPulls_146 2 rfl ?_
            refine rhF.ck (fun h33 => ?_)
            refine rhF.ck (fun h34 => ?_)
            refine rhF.iald (pc := 147) dX7_listPulls_147 h33 h34 ?_
            refine rhF.aload_n (pc := 148) dX7_listPulls_148 0 rfl ?_
            refine rhF.get (pc := 149) (rhR _) dX7_listPulls_149 fl_X7_21 h16 rfl ?_
            refine rhF.iload (pc := 152) dX7_listPulls_152 6 rfl ?_
            refine rhF.ck (fun h35 => ?_)
            refine rhF.iald (pc := 154) dX7_listPulls_154 h33 h35 ?_
            refine rhF.ixor (pc := 155) dX7_listPulls_155 ?_
            refine rhF.iload_n (pc := 156) dX7_listPulls_156 3 rfl ?_
            refine rhF.iconst (pc := 157) (v := (-1)) dX7_listPulls_157 (by decide) ?_
            refine rhF.ixor (pc := 158) dX7_listPulls_158 ?_
            refine rhF.iand (pc := 159) dX7_listPulls_159 ?_
            refine rhF.ck (fun h36 => ?_)
            refine rhF.ck (fun h37 => ?_)
            refine rhF.iast (pc := 160) dX7_listPulls_160 h36 h37 ?_
            refine rhF.aload_n (pc := 161) dX7_listPulls_161 0 rfl ?_
            refine rhF.get (pc := 162) (rhR _) dX7_listPulls_162 fl_X7_33 h16 rfl ?_
            refine rhF.aload_n (pc := 165) dX7_listPulls_165 0 rfl ?_
            refine rhF.get (pc := 166) (rhI _) dX7_listPulls_166 fl_X7_83 h16 rfl ?_
            refine rhF.iload (pc := 169) dX7_listPulls_169 6 rfl ?_
            refine rhF.iload_n (pc := 171) dX7_listPulls_171 2 rfl ?_
            refine rhF.isub (pc := 172) dX7_listPulls_172 ?_
            refine rhF.ck (fun h39 => ?_)
            refine rhF.ck (fun h40 => ?_)
            refine rhF.iast (pc := 173) dX7_listPulls_173 h39 h40 ?_
            refine rhF.aload_n (pc := 174) dX7_listPulls_174 0 rfl ?_
            refine rhF.dupr (pc := 175) dX7_listPulls_175 ?_
            refine rhF.get (pc := 176) (rhI _) dX7_listPulls_176 fl_X7_83 h16 rfl ?_
            refine rhF.iconst (pc := 179) (v := 1) dX7_listPulls_179 (by decide) ?_
            refine rhF.iadd (pc := 180) dX7_listPulls_180 ?_
            refine rhF.puti (pc := 181) dX7_listPulls_181 fl_X7_83 h16 (fun q hq => by cases hq; exact Or.inl rfl) ⟨rfl, rfl⟩ (fun _ => rfl) ?_
            exact (b_X7_listPulls_184 ih) _ _ _ _ _ _ _ _
        · exact (b_X7_listPulls_184 ih) _ _ _ _ _ _ _ _
    · refine rhF.sub [0, 1, 2, 3, 4, 5] rfl ?_
      exact hk190 _ _ _ _ _ _ _
set_option maxHeartbeats 4000000 in
set_option maxRecDepth 100000 in
theorem b_X7_listPulls_190 {E : rhE} {Γ : rhG} {k34 : rhM → Nat → Nat → Int32 → Int32 → Int32 → Int32 → Option (rhM)} (hk34 : ∀ (M : rhM) (v0 : Nat) (v1 : Nat) (v2 : Int32) (v3 : Int32) (v4 : Int32) (v5 : Int32), rhF E 8 7 yX7_listPulls cX7_listPulls none Γ (rhe1U Γ) (k34 M v0 v1 v2 v3 v4 v5) 34 [(0, rhR v0), (1, rhR v1), (2, rhI v2), (3, rhI v3), (4, rhI v4), (5, rhI v5)] [] Γ M) : ∀ (M : rhM) (v0 : Nat) (v1 : Nat) (v2 : Int32) (v3 : Int32) (v4 : Int32) (v5 : Int32), rhF E 8 7 yX7_listPulls cX7_listPulls none Γ (rhe1U Γ) (f_X7_listPulls_190 k34 Γ M v0 v1 v2 v3 v4 v5) 190 [(0, rhR v0), (1, rhR v1), (2, rhI v2), (3, rhI v3), (4, rhI v4), (5, rhI v5)] [] Γ M := by
  intro M v0 v1 v2 v3 v4 v5
  rw [f_X7_listPulls_190]
  refine rhF.iinc (pc := 190) (L' := [(5, rhI _), (0, rhR _), (1, rhR _), (2, rhI _), (3, rhI _), (4, rhI _)]) dX7_listPulls_190 5 rfl rfl (by decide) rfl ?_
  refine rhF.goto (pc := 193) 34 dX7_listPulls_193 (by decide) ?_
  refine rhF.sub [1, 2, 3, 4, 5, 0] rfl ?_
  exact hk34 _ _ _ _ _ _ _
set_option maxHeartbeats 4000000 in
set_option maxRecDepth 100000 in
theorem b_X7_listPulls_34 {E : rhE} {Γ : rhG} {k196 : rhM → Nat → Nat → Int32 → Option (rhM)} (hk196 : ∀ (M : rhM) (v0 : Nat) (v1 : Nat) (v2 : Int32), rhF E 8 7 yX7_listPulls cX7_listPulls none Γ (rhe1U Γ) (k196 M v0 v1 v2) 196 [(0, rhR v0), (1, rhR v1), (2, rhI v2)] [] Γ M) : ∀ (n : Nat) (M : rhM) (v0 : Nat) (v1 : Nat) (v2 : Int32) (v3 : Int32) (v4 : Int32) (v5 : Int32), rhF E 8 7 yX7_listPulls cX7_listPulls none Γ (rhe1U Γ) (f_X7_listPulls_34 k196 Γ n M v0 v1 v2 v3 v4 v5) 34 [(0, rhR v0), (1, rhR v1), (2, rhI v2), (3, rhI v3), (4, rhI v4), (5, rhI v5)] [] Γ M := by
  intro n
  induction n with
  | zero => intro M v0 v1 v2 v3 v4 v5; rw [f_X7_listPulls_34]; exact rhF.nope
  | succ n ih =>
    intro M v0 v1 v2 v3 v4 v5
    rw [f_X7_listPulls_34]
    refine rhF.iload (pc := 34) dX7_listPulls_34 5 rfl ?_
    refine rhF.aload_n (pc := 36) dX7_listPulls_36 0 rfl ?_
    refine rhF.ck (fun h9 => ?_)
    refine rhF.get (pc := 37) (rhR _) dX7_listPulls_37 fl_X7_9 h9 rfl ?_
    refine rhF.iload_n (pc := 40) dX7_listPulls_40 2 rfl ?_
    refine rhF.ck (fun h10 => ?_)
    refine rhF.ck (fun h11 => ?_)
    refine rhF.iald (pc := 41) dX7_listPulls_41 h10 h11 ?_
    refine rhF.icmp_lt (pc := 42) 196 dX7_listPulls_42 (by decide) (fun h12 => ?_) (fun h12 => ?_)
    · refine rhF.sub [0, 1, 2] rfl ?_
      exact hk196 _ _ _ _
    · refine rhF.iload_n (pc := 45) dX7_listPulls_45 3 rfl ?_
      refine rhF.iconst (pc := 46) (v := 1) dX7_listPulls_46 (by decide) ?_
      refine rhF.aload_n (pc := 47) dX7_listPulls_47 0 rfl ?_
      refine rhF.get (pc := 48) (rhJ _) dX7_listPulls_48 fl_X7_39 h9 rfl ?_
      refine rhF.iload (pc := 51) dX7_listPulls_51 5 rfl ?_
      refine rhF.callS (pc := 53) (embc := rhe0I _ _) [rhJ _, rhI _] dX7_listPulls_53 ml_X7_59 ms_X7_digitOf (c_X7_digitOf _ _ _ _ _) (by decide) (by decide) rfl (Nat.le_of_ble_eq_true rfl) (fun r13 _ => ?_)
      refine rhF.ishl (pc := 56) dX7_listPulls_56 ?_
      refine rhF.ior (pc := 57) dX7_listPulls_57 ?_
      refine rhF.istore_n (pc := 58) (L' := [(3, rhI _), (0, rhR _), (1, rhR _), (2, rhI _), (4, rhI _), (5, rhI _)]) dX7_listPulls_58 (by decide) rfl ?_
      refine rhF.iinc (pc := 59) (L' := [(4, rhI _), (3, rhI _), (0, rhR _), (1, rhR _), (2, rhI _), (5, rhI _)]) dX7_listPulls_59 4 rfl rfl (by decide) rfl ?_
      refine rhF.iconst (pc := 62) (v := 0) dX7_listPulls_62 (by decide) ?_
      refine rhF.istore (pc := 63) (L' := [(6, rhI _), (4, rhI _), (3, rhI _), (0, rhR _), (1, rhR _), (2, rhI _), (5, rhI _)]) dX7_listPulls_63 (by decide) rfl ?_
      refine rhF.sub [3, 4, 5, 2, 1, 6, 0] rfl ?_
      exact (b_X7_listPulls_65 (b_X7_listPulls_190 ih) rhFU) _ _ _ _ _ _ _ _
set_option maxHeartbeats 4000000 in
set_option maxRecDepth 100000 in
theorem b_X7_listPulls_196 {E : rhE} {Γ : rhG} {k11 : rhM → Nat → Nat → Int32 → Option (rhM)} (hk11 : ∀ (M : rhM) (v0 : Nat) (v1 : Nat) (v2 : Int32), rhF E 8 7 yX7_listPulls cX7_listPulls none Γ (rhe1U Γ) (k11 M v0 v1 v2) 11 [(0, rhR v0), (1, rhR v1), (2, rhI v2)] [] Γ M) : ∀ (M : rhM) (v0 : Nat) (v1 : Nat) (v2 : Int32), rhF E 8 7 yX7_listPulls cX7_listPulls none Γ (rhe1U Γ) (f_X7_listPulls_196 k11 Γ M v0 v1 v2) 196 [(0, rhR v0), (1, rhR v1), (2, rhI v2)] [] Γ M := by
  intro M v0 v1 v2
  rw [f_X7_listPulls_196]
  refine rhF.iinc (pc := 196) (L' := [(2, rhI _), (0, rhR _), (1, rhR _)]) dX7_listPulls_196 2 rfl rfl (by decide) rfl ?_
  refine rhF.goto (pc := 199) 11 dX7_listPulls_199 (by decide) ?_
  refine rhF.sub [1, 2, 0] rfl ?_
  exact hk11 _ _ _ _
set_option maxHeartbeats 4000000 in
set_option maxRecDepth 100000 in
theorem b_X7_listPulls_11 {E : rhE} {Γ : rhG} : ∀ (n : Nat) (M : rhM) (v0 : Nat) (v1 : Nat) (v2 : Int32), rhF E 8 7 yX7_listPulls cX7_listPulls none Γ (rhe1U Γ) (f_X7_listPulls_11 Γ n M v0 v1 v2) 11 [(0, rhR v0), (1, rhR v1), (2, rhI v2)] [] Γ M := by
  intro n
  induction n with
  | zero => intro M v0 v1 v2; rw [f_X7_listPulls_11]; exact rhF.nope
  | succ n ih =>
    intro M v0 v1 v2
    rw [f_X7_listPulls_11]
    refine rhF.iload_n (pc := 11) dX7_listPulls_11 2 rfl ?_
    refine rhF.aload_n (pc := 12) dX7_listPulls_12 0 rfl ?_
    refine rhF.ck (fun h4 => ?_)
    refine rhF.get (pc := 13) (rhI _) dX7_listPulls_13 fl_X7_49 h4 rfl ?_
    refine rhF.icmp_ge (pc := 16) 202 dX7_listPulls_16 (by decide) (fun h5 => ?_) (fun h5 => ?_)
    · refine rhF.iconst (pc := 19) (v := 0) dX7_listPulls_19 (by decide) ?_
      refine rhF.istore_n (pc := 20) (L' := [(3, rhI _), (0, rhR _), (1, rhR _), (2, rhI _)]) dX7_listPulls_20 (by decide) rfl ?_
      refine rhF.iconst (pc := 21) (v := 0) dX7_listPulls_21 (by decide) ?_
      refine rhF.istore (pc := 22) (L' := [(4, rhI _), (3, rhI _), (0, rhR _), (1, rhR _), (2, rhI _)]) dX7_listPulls_22 (by decide) rfl ?_
      refine rhF.aload_n (pc := 24) dX7_listPulls_24 2 rfl ?_
      refine rhF.get (pc := 25) (rhR _) dX7_listPulls_25 fl_X7_15 h4 rfl ?_
      refine rhF.iload_n (pc := 28) dX7_listPulls_28 4 rfl ?_
      refine rhF.ck (fun h6 => ?_)
      refine rhF.ck (fun h7 => ?_)
      refine rhF.iald (pc := 29) dX7_listPulls_29 h6 h7 ?_
      refine rhF.iconst (pc := 30) (v := 1) dX7_listPulls_30 (by decide) ?_
      refine rhF.isub (pc := 31) dX7_listPulls_31 ?_
      refine rhF.istore (pc := 32) (L' := [(5, rhI _), (4, rhI _), (3, rhI _), (0, rhR _), (1, rhR _), (2, rhI _)]) dX7_listPulls_32 (by decide) rfl ?_
      refine rhF.sub [3, 4, 5, 2, 1, 0] rfl ?_
      exact (b_X7_listPulls_34 (b_X7_listPulls_196 ih) rhFU) _ _ _ _ _ _ _
    · exact rhF.vret (pc := 202) dX7_listPulls_202 rfl rfl
set_option maxHeartbeats 4000000 in
set_option maxRecDepth 100000 in
theorem b_X7_listPulls {E : rhE} {Γ : rhG} : ∀ (M : rhM) (v0 : Nat) (v1 : Nat), rhF E 8 7 yX7_listPulls cX7_listPulls none Γ (rhe1U Γ) (f_X7_listPulls Γ M v0 v1) 0 [(0, rhR v0), (1, rhR v1)] [] Γ M := by
  intro M v0 v1
  rw [f_X7_listPulls]
  refine rhF.aload_n (pc := 0) dX7_listPulls_0 0 rfl ?_
  refine rhF.iconst (pc := 1) (v := 0) dX7_listPulls_1 (by decide) ?_
  refine rhF.ck (fun h1 => ?_)
  refine rhF.puti (pc := 2) dX7_listPulls_2 fl_X7_83 h1 (fun q hq => by cases hq; exact Or.inl rfl) ⟨rfl, rfl⟩ (fun _ => rfl) ?_
  refine rhF.aload_n (pc := 5) dX7_listPulls_5 0 rfl ?_
  refine rhF.callV (pc := 6) (ci := 7) (embc := rhe1U _) [] dX7_listPulls_6 ml_X7_86 mv_X7_unite ⟨_, rfl, rfl⟩ h1 (c_X7_unite _ _ _ _) (by decide) (by decide) rfl (Nat.le_of_ble_eq_true rfl) (fun r3 _ => ?_)
  refine rhF.iconst (pc := 9) (v := 0) dX7_listPulls_9 (by decide) ?_
  refine rhF.istore_n (pc := 10) (L' := [(2, rhI _), (0, rhR _), (1, rhR _)]) dX7_listPulls_10 (by decide) rfl ?_
  refine rhF.sub [1, 2, 0] rfl ?_
  exact (b_X7_listPulls_11 rhFU) _ _ _ _
theorem c_X7_listPulls (E : rhE) (Γ : rhG) (M : rhM) (v0 : Nat) (v1 : Nat) : ∀ a, f_X7_listPulls Γ M v0 v1 = some a → rhC E 8 yX7_listPulls cX7_listPulls 7 none [rhR v0, rhR v1] Γ M ((rhe1U Γ) a) := rhF.met (by decide +kernel) (Nat.le_of_ble_eq_true rfl) (b_X7_listPulls M v0 v1)
def f_X7_look_128 (k50 : rhM → Nat → Int64 → Int32 → Int32 → Int32 → Option (rhM)) (Γ : rhG) (M : rhM) (v0 : Nat) (v2 : Int64) (v4 : Int32) (v5 : Int32) (v6 : Int32) : Option (rhM) :=
  let x19 : Int32 := v6 + 1
  k50 M v0 v2 v4 v5 x19
def f_X7_look_50 (k134 : rhM → Nat → Int32 → Int32 → Option (rhM)) (Γ : rhG) : Nat → rhM → Nat → Int64 → Int32 → Int32 → Int32 → Option (rhM)
  | 0, _, _, _, _, _, _ => none
  | n + 1, M, v0, v2, v4, v5, v6 =>
    if v6 < v4 then
      ((f_X7_digitOf Γ M v2 v6).bind fun r13 =>
      if r13 < 8 then
        (rhck (Γ.2.2.1 v0 = 8) <|
        rhck (Γ.2.2.1 (M.2.2 v0 4) = 15) <|
        rhck (0 ≤ (v5).toInt ∧ (v5).toInt < (Γ.2.2.2 (M.2.2 v0 4) : Nat)) <|
        let M18 := rhsi M (M.2.2 v0 4) (v5 : Int32).toNatClampNeg ((M.1 (M.2.2 v0 4) v5.toNatClampNeg) ||| (1 <<< (r13 &&& 31)))
        f_X7_look_128 (f_X7_look_50 k134 Γ n) Γ M18 v0 v2 v4 v5 v6)
      else
        if (v5 + 1) < 5 then
          (rhck (Γ.2.2.1 v0 = 8) <|
          rhck (Γ.2.2.1 (M.2.2 v0 3) = 15) <|
          rhck (0 ≤ (v5).toInt ∧ (v5).toInt < (Γ.2.2.2 (M.2.2 v0 3) : Nat)) <|
          let M24 := rhsi M (M.2.2 v0 3) (v5 : Int32).toNatClampNeg v6
          let x25 : Int32 := v5 + 1
          rhck (Γ.2.2.1 (M.2.2 v0 2) = 15) <|
          rhck (0 ≤ (x25).toInt ∧ (x25).toInt < (Γ.2.2.2 (M.2.2 v0 2) : Nat)) <|
          let M28 := rhsi M24 (M.2.2 v0 2) (x25 : Int32).toNatClampNeg (v6 + 1)
          rhck (Γ.2.2.1 (M.2.2 v0 4) = 15) <|
          rhck (0 ≤ (x25).toInt ∧ (x25).toInt < (Γ.2.2.2 (M.2.2 v0 4) : Nat)) <|
          let M31 := rhsi M28 (M.2.2 v0 4) (x25 : Int32).toNatClampNeg 0
          f_X7_look_128 (f_X7_look_50 k134 Γ n) Γ M31 v0 v2 v4 x25 v6)
        else
          f_X7_look_128 (f_X7_look_50 k134 Γ n) Γ M v0 v2 v4 v5 v6)
    else
      k134 M v0 v4 v5
def f_X7_look_134 (Γ : rhG) (M : rhM) (v0 : Nat) (v4 : Int32) (v5 : Int32) : Option (rhM) :=
  rhck (Γ.2.2.1 v0 = 8) <|
  rhck (Γ.2.2.1 (M.2.2 v0 3) = 15) <|
  rhck (0 ≤ (v5).toInt ∧ (v5).toInt < (Γ.2.2.2 (M.2.2 v0 3) : Nat)) <|
  let M35 := rhsi M (M.2.2 v0 3) (v5 : Int32).toNatClampNeg v4
  some M35
def f_X7_look (Γ : rhG) (M : rhM) (v0 : Nat) (v1 : Nat) (v2 : Int64) : Option (rhM) :=
  rhck (Γ.2.2.1 v0 = 8) <|
  let M2 := rhsl M v0 0 v2
  rhck (Γ.2.2.1 v1 = 10) <|
  let M4 := rhsi M2 v0 1 (M.1 v1 0)
  let x5 : Int32 := if (((M4.1 v1 1) + (M4.1 v1 0)) - 1) < 0 then 0 else ((M4.1 v1 1) + (M4.1 v1 0)) - 1
  rhck (Γ.2.2.1 (M.2.2 v0 2) = 15) <|
  rhck (0 ≤ (0 : Int32).toInt ∧ (0 : Int32).toInt < (Γ.2.2.2 (M.2.2 v0 2) : Nat)) <|
  let M8 := rhsi M4 (M.2.2 v0 2) (0 : Int32).toNatClampNeg 0
  rhck (Γ.2.2.1 (M.2.2 v0 4) = 15) <|
  rhck (0 ≤ (0 : Int32).toInt ∧ (0 : Int32).toInt < (Γ.2.2.2 (M.2.2 v0 4) : Nat)) <|
  let M11 := rhsi M8 (M.2.2 v0 4) (0 : Int32).toNatClampNeg 0
  f_X7_look_50 (f_X7_look_134 Γ) Γ rhFU M11 v0 v2 x5 0 0
set_option maxHeartbeats 4000000 in
set_option maxRecDepth 100000 in
theorem b_X7_look_128 {E : rhE} {Γ : rhG} {k50 : rhM → Nat → Int64 → Int32 → Int32 → Int32 → Option (rhM)} (hk50 : ∀ (M : rhM) (v0 : Nat) (v2 : Int64) (v4 : Int32) (v5 : Int32) (v6 : Int32), rhF E 5 8 yX7_look cX7_look none Γ (rhe1U Γ) (k50 M v0 v2 v4 v5 v6) 50 [(0, rhR v0), (2, rhJ v2), (4, rhI v4), (5, rhI v5), (6, rhI v6)] [] Γ M) : ∀ (M : rhM) (v0 : Nat) (v2 : Int64) (v4 : Int32) (v5 : Int32) (v6 : Int32), rhF E 5 8 yX7_look cX7_look none Γ (rhe1U Γ) (f_X7_look_128 k50 Γ M v0 v2 v4 v5 v6) 128 [(0, rhR v0), (2, rhJ v2), (4, rhI v4), (5, rhI v5), (6, rhI v6)] [] Γ M := by
  intro M v0 v2 v4 v5 v6
  rw [f_X7_look_128]
  refine rhF.iinc (pc := 128) (L' := [(6, rhI _), (0, rhR _), (2, rhJ _), (4, rhI _), (5, rhI _)]) dX7_look_128 4 rfl rfl (by decide) rfl ?_
  refine rhF.goto (pc := 131) 50 dX7_look_131 (by decide) ?_
  refine rhF.sub [1, 2, 3, 4, 0] rfl ?_
  exact hk50 _ _ _ _ _ _
set_option maxHeartbeats 4000000 in
set_option maxRecDepth 100000 in
theorem b_X7_look_50 {E : rhE} {Γ : rhG} {k134 : rhM → Nat → Int32 → Int32 → Option (rhM)} (hk134 : ∀ (M : rhM) (v0 : Nat) (v4 : Int32) (v5 : Int32), rhF E 5 8 yX7_look cX7_look none Γ (rhe1U Γ) (k134 M v0 v4 v5) 134 [(0, rhR v0), (4, rhI v4), (5, rhI v5)] [] Γ M) : ∀ (n : Nat) (M : rhM) (v0 : Nat) (v2 : Int64) (v4 : Int32) (v5 : Int32) (v6 : Int32), rhF E 5 8 yX7_look cX7_look none Γ (rhe1U Γ) (f_X7_look_50 k134 Γ n M v0 v2 v4 v5 v6) 50 [(0, rhR v0), (2, rhJ v2), (4, rhI v4), (5, rhI v5), (6, rhI v6)] [] Γ M := by
  intro n
  induction n with
  | zero => intro M v0 v2 v4 v5 v6; rw [f_X7_look_50]; exact rhF.nope
  | succ n ih =>
    intro M v0 v2 v4 v5 v6
    rw [f_X7_look_50]
    refine rhF.iload (pc := 50) dX7_look_50 4 rfl ?_
    refine rhF.iload (pc := 52) dX7_look_52 2 rfl ?_
    refine rhF.icmp_ge (pc := 54) 134 dX7_look_54 (by decide) (fun h12 => ?_) (fun h12 => ?_)
    · refine rhF.lload_n (pc := 57) dX7_look_57 1 rfl ?_
      refine rhF.iload (pc := 58) dX7_look_58 4 rfl ?_
      refine rhF.callS (pc := 60) (embc := rhe0I _ _) [rhJ _, rhI _] dX7_look_60 ml_X7_59 ms_X7_digitOf (c_X7_digitOf _ _ _ _ _) (by decide) (by decide) rfl (Nat.le_of_ble_eq_true rfl) (fun r13 _ => ?_)
      refine rhF.istore (pc := 63) (L' := [(7, rhI _), (0, rhR _), (2, rhJ _), (4, rhI _), (5, rhI _), (6, rhI _)]) dX7_look_63 (by decide) rfl ?_
      refine rhF.iload (pc := 65) dX7_look_65 0 rfl ?_
      refine rhF.bipush (pc := 67) (v := 8) dX7_look_67 (by decide) ?_
      refine rhF.icmp_ge (pc := 69) 89 dX7_look_69 (by decide) (fun h14 => ?_) (fun h14 => ?_)
      · refine rhF.aload_n (pc := 72) dX7_look_72 1 rfl ?_
        refine rhF.ck (fun h15 => ?_)
        refine rhF.get (pc := 73) (rhR _) dX7_look_73 fl_X7_18 h15 rfl ?_
        refine rhF.iload (pc := 76) dX7_look_76 4 rfl ?_
        refine rhF.dup2ri (pc := 78) dX7_look_78 ?_
        refine rhF.ck (fun h16 => ?_)
        refine rhF.ck (fun h17 => ?_)
        refine rhF.iald (pc := 79) dX7_look_79 h16 h17 ?_
        refine rhF.iconst (pc := 80) (v := 1) dX7_look_80 (by decide) ?_
        refine rhF.iload (pc := 81) dX7_look_81 0 rfl ?_
        refine rhF.ishl (pc := 83) dX7_look_83 ?_
        refine rhF.ior (pc := 84) dX7_look_84 ?_
        refine rhF.iast (pc := 85) dX7_look_85 h16 h17 ?_
        refine rhF.goto (pc := 86) 128 dX7_look_86 (by decide) ?_
        refine rhF.sub [1, 2, 3, 4, 5] rfl ?_
        exact (b_X7_look_128 ih) _ _ _ _ _ _
      · refine rhF.iload (pc := 89) dX7_look_89 4 rfl ?_
        refine rhF.iconst (pc := 91) (v := 1) dX7_look_91 (by decide) ?_
        refine rhF.iadd (pc := 92) dX7_look_92 ?_
        refine rhF.iconst (pc := 93) (v := 5) dX7_look_93 (by decide) ?_
        refine rhF.icmp_ge (pc := 94) 128 dX7_look_94 (by decide) (fun h20 => ?_) (fun h20 => ?_)
        · refine rhF.aload_n (pc := 97) dX7_look_97 1 rfl ?_
          refine rhF.ck (fun h21 => ?_)
          refine rhF.get (pc := 98) (rhR _) dX7_look_98 fl_X7_15 h21 rfl ?_
          refine rhF.iload (pc := 101) dX7_look_101 4 rfl ?_
          refine rhF.iload (pc := 103) dX7_look_103 5 rfl ?_
          refine rhF.ck (fun h22 => ?_)
          refine rhF.ck (fun h23 => ?_)
          refine rhF.iast (pc := 105) dX7_look_105 h22 h23 ?_
          refine rhF.iinc (pc := 106) (L' := [(5, rhI _), (7, rhI _), (0, rhR _), (2, rhJ _), (4, rhI _), (6, rhI _)]) dX7_look_106 4 rfl rfl (by decide) rfl ?_
          refine rhF.aload_n (pc := 109) dX7_look_109 2 rfl ?_
          refine rhF.get (pc := 110) (rhR _) dX7_look_110 fl_X7_9 h21 rfl ?_
          refine rhF.iload (pc := 113) dX7_look_113 0 rfl ?_
          refine rhF.iload (pc := 115) dX7_look_115 5 rfl ?_
          refine rhF.iconst (pc := 117) (v := 1) dX7_look_117 (by decide) ?_
          refine rhF.iadd (pc := 118) dX7_look_118 ?_
          refine rhF.ck (fun h26 => ?_)
          refine rhF.ck (fun h27 => ?_)
          refine rhF.iast (pc := 119) dX7_look_119 h26 h27 ?_
          refine rhF.aload_n (pc := 120) dX7_look_120 2 rfl ?_
          refine rhF.get (pc := 121) (rhR _) dX7_look_121 fl_X7_18 h21 rfl ?_
          refine rhF.iload (pc := 124) dX7_look_124 0 rfl ?_
          refine rhF.iconst (pc := 126) (v := 0) dX7_look_126 (by decide) ?_
          refine rhF.ck (fun h29 => ?_)
          refine rhF.ck (fun h30 => ?_)
          refine rhF.iast (pc := 127) dX7_look_127 h29 h30 ?_
          refine rhF.sub [2, 3, 4, 0, 5] rfl ?_
          exact (b_X7_look_128 ih) _ _ _ _ _ _
        · refine rhF.sub [1, 2, 3, 4, 5] rfl ?_
          exact (b_X7_look_128 ih) _ _ _ _ _ _
    · refine rhF.sub [0, 2, 3] rfl ?_
      exact hk134 _ _ _ _
set_option maxHeartbeats 4000000 in
set_option maxRecDepth 100000 in
theorem b_X7_look_134 {E : rhE} {Γ : rhG} : ∀ (M : rhM) (v0 : Nat) (v4 : Int32) (v5 : Int32), rhF E 5 8 yX7_look cX7_look none Γ (rhe1U Γ) (f_X7_look_134 Γ M v0 v4 v5) 134 [(0, rhR v0), (4, rhI v4), (5, rhI v5)] [] Γ M := by
  intro M v0 v4 v5
  rw [f_X7_look_134]
  refine rhF.aload_n (pc := 134) dX7_look_134 0 rfl ?_
  refine rhF.ck (fun h32 => ?_)
  refine rhF.get (pc := 135) (rhR _) dX7_look_135 fl_X7_15 h32 rfl ?_
  refine rhF.iload (pc := 138) dX7_look_138 2 rfl ?_
  refine rhF.iload (pc := 140) dX7_look_140 1 rfl ?_
  refine rhF.ck (fun h33 => ?_)
  refine rhF.ck (fun h34 => ?_)
  refine rhF.iast (pc := 142) dX7_look_142 h33 h34 ?_
  exact rhF.vret (pc := 143) dX7_look_143 rfl rfl
set_option maxHeartbeats 4000000 in
set_option maxRecDepth 100000 in
theorem b_X7_look {E : rhE} {Γ : rhG} : ∀ (M : rhM) (v0 : Nat) (v1 : Nat) (v2 : Int64), rhF E 5 8 yX7_look cX7_look none Γ (rhe1U Γ) (f_X7_look Γ M v0 v1 v2) 0 [(0, rhR v0), (1, rhR v1), (2, rhJ v2)] [] Γ M := by
  intro M v0 v1 v2
  rw [f_X7_look]
  refine rhF.aload_n (pc := 0) dX7_look_0 0 rfl ?_
  refine rhF.lload_n (pc := 1) dX7_look_1 2 rfl ?_
  refine rhF.ck (fun h1 => ?_)
  refine rhF.putl (pc := 2) dX7_look_2 fl_X7_39 h1 (fun q hq => by cases hq; exact Or.inl rfl) ⟨rfl, rfl⟩ (fun _ => rfl) ?_
  refine rhF.aload_n (pc := 5) dX7_look_5 0 rfl ?_
  refine rhF.aload_n (pc := 6) dX7_look_6 1 rfl ?_
  refine rhF.ck (fun h3 => ?_)
  refine rhF.get (pc := 7) (rhI _) dX7_look_7 fl_X7_43 h3 rfl ?_
  refine rhF.puti (pc := 10) dX7_look_10 fl_X7_49 h1 (fun q hq => by cases hq; exact Or.inl rfl) ⟨rfl, rfl⟩ (fun _ => rfl) ?_
  refine rhF.aload_n (pc := 13) dX7_look_13 1 rfl ?_
  refine rhF.get (pc := 14) (rhI _) dX7_look_14 fl_X7_50 h3 rfl ?_
  refine rhF.aload_n (pc := 17) dX7_look_17 1 rfl ?_
  refine rhF.get (pc := 18) (rhI _) dX7_look_18 fl_X7_43 h3 rfl ?_
  refine rhF.iadd (pc := 21) dX7_look_21 ?_
  refine rhF.iconst (pc := 22) (v := 1) dX7_look_22 (by decide) ?_
  refine rhF.isub (pc := 23) dX7_look_23 ?_
  refine rhF.iconst (pc := 24) (v := 0) dX7_look_24 (by decide) ?_
  refine rhF.mmax (pc := 25) dX7_look_25 mm_X7_53 (by decide) (Nat.le_of_ble_eq_true rfl) ?_
  refine rhF.istore (pc := 28) (L' := [(4, rhI _), (0, rhR _), (1, rhR _), (2, rhJ _)]) dX7_look_28 (by decide) rfl ?_
  refine rhF.iconst (pc := 30) (v := 0) dX7_look_30 (by decide) ?_
  refine rhF.istore (pc := 31) (L' := [(5, rhI _), (4, rhI _), (0, rhR _), (1, rhR _), (2, rhJ _)]) dX7_look_31 (by decide) rfl ?_
  refine rhF.aload_n (pc := 33) dX7_look_33 2 rfl ?_
  refine rhF.get (pc := 34) (rhR _) dX7_look_34 fl_X7_9 h1 rfl ?_
  refine rhF.iconst (pc := 37) (v := 0) dX7_look_37 (by decide) ?_
  refine rhF.iconst (pc := 38) (v := 0) dX7_look_38 (by decide) ?_
  refine rhF.ck (fun h6 => ?_)
  refine rhF.ck (fun h7 => ?_)
  refine rhF.iast (pc := 39) dX7_look_39 h6 h7 ?_
  refine rhF.aload_n (pc := 40) dX7_look_40 2 rfl ?_
  refine rhF.get (pc := 41) (rhR _) dX7_look_41 fl_X7_18 h1 rfl ?_
  refine rhF.iconst (pc := 44) (v := 0) dX7_look_44 (by decide) ?_
  refine rhF.iconst (pc := 45) (v := 0) dX7_look_45 (by decide) ?_
  refine rhF.ck (fun h9 => ?_)
  refine rhF.ck (fun h10 => ?_)
  refine rhF.iast (pc := 46) dX7_look_46 h9 h10 ?_
  refine rhF.iconst (pc := 47) (v := 0) dX7_look_47 (by decide) ?_
  refine rhF.istore (pc := 48) (L' := [(6, rhI _), (5, rhI _), (4, rhI _), (0, rhR _), (1, rhR _), (2, rhJ _)]) dX7_look_48 (by decide) rfl ?_
  refine rhF.sub [3, 5, 2, 1, 0] rfl ?_
  exact (b_X7_look_50 (b_X7_look_134) rhFU) _ _ _ _ _ _
theorem c_X7_look (E : rhE) (Γ : rhG) (M : rhM) (v0 : Nat) (v1 : Nat) (v2 : Int64) : ∀ a, f_X7_look Γ M v0 v1 v2 = some a → rhC E 5 yX7_look cX7_look 8 none [rhR v0, rhR v1, rhJ v2] Γ M ((rhe1U Γ) a) := rhF.met (by decide +kernel) (Nat.le_of_ble_eq_true rfl) (b_X7_look M v0 v1 v2)
def f_X7_ones (Γ : rhG) (M : rhM) (v0 : Int32) : Option (Int64) :=
  some ((rhsh ((1 : Int64)) (4 * v0)) - ((1 : Int64)))
set_option maxHeartbeats 4000000 in
set_option maxRecDepth 100000 in
theorem b_X7_ones {E : rhE} {Γ : rhG} {M : rhM} : ∀ (v0 : Int32), rhF E 1 1 yX7_ones cX7_ones (some .long) Γ (rhe0J Γ M) (f_X7_ones Γ M v0) 0 [(0, rhI v0)] [] Γ M := by
  intro v0
  rw [f_X7_ones]
  refine rhF.lconst (pc := 0) (v := 1) dX7_ones_0 (by decide) ?_
  refine rhF.iconst (pc := 1) (v := 4) dX7_ones_1 (by decide) ?_
  refine rhF.iload_n (pc := 2) dX7_ones_2 0 rfl ?_
  refine rhF.imul (pc := 3) dX7_ones_3 ?_
  refine rhF.lshl (pc := 4) dX7_ones_4 ?_
  refine rhF.lconst (pc := 5) (v := 1) dX7_ones_5 (by decide) ?_
  refine rhF.lsub (pc := 6) dX7_ones_6 ?_
  exact rhF.lret (pc := 7) dX7_ones_7 rfl rfl
theorem c_X7_ones (E : rhE) (Γ : rhG) (M : rhM) (v0 : Int32) : ∀ a, f_X7_ones Γ M v0 = some a → rhC E 1 yX7_ones cX7_ones 1 (some .long) [rhI v0] Γ M ((rhe0J Γ M) a) := rhF.met (by decide +kernel) (Nat.le_of_ble_eq_true rfl) (b_X7_ones v0)
def f_X7_swapped (Γ : rhG) (M : rhM) (v0 : Nat) (v1 : Int32) (v2 : Int32) (v3 : Int32) : Option (Int64) :=
  rhck (Γ.2.2.1 v0 = 8) <|
  (f_X7_ones Γ M (v2 - v1)).bind fun r2 =>
  let x3 := (rhul (M.2.1 v0 0) (4 * v1)) &&& r2
  (f_X7_ones Γ M (v3 - v2)).bind fun r4 =>
  let x5 := (rhul (M.2.1 v0 0) (4 * v2)) &&& r4
  (f_X7_ones Γ M (v3 - v1)).bind fun r6 =>
  let x7 := (M.2.1 v0 0) &&& ((rhsh r6 (4 * v1)) ^^^ ((-1 : Int64)))
  some ((x7 ||| (rhsh x5 (4 * v1))) ||| (rhsh x3 (4 * ((v1 + v3) - v2))))
set_option maxHeartbeats 4000000 in
set_option maxRecDepth 100000 in
theorem b_X7_swapped {E : rhE} {Γ : rhG} {M : rhM} : ∀ (v0 : Nat) (v1 : Int32) (v2 : Int32) (v3 : Int32), rhF E 5 10 yX7_swapped cX7_swapped (some .long) Γ (rhe0J Γ M) (f_X7_swapped Γ M v0 v1 v2 v3) 0 [(0, rhR v0), (1, rhI v1), (2, rhI v2), (3, rhI v3)] [] Γ M := by
  intro v0 v1 v2 v3
  rw [f_X7_swapped]
  refine rhF.aload_n (pc := 0) dX7_swapped_0 0 rfl ?_
  refine rhF.ck (fun h1 => ?_)
  refine rhF.get (pc := 1) (rhJ _) dX7_swapped_1 fl_X7_39 h1 rfl ?_
  refine rhF.iconst (pc := 4) (v := 4) dX7_swapped_4 (by decide) ?_
  refine rhF.iload_n (pc := 5) dX7_swapped_5 1 rfl ?_
  refine rhF.imul (pc := 6) dX7_swapped_6 ?_
  refine rhF.lushr (pc := 7) dX7_swapped_7 ?_
  refine rhF.iload_n (pc := 8) dX7_swapped_8 2 rfl ?_
  refine rhF.iload_n (pc := 9) dX7_swapped_9 1 rfl ?_
  refine rhF.isub (pc := 10) dX7_swapped_10 ?_
  refine rhF.callS (pc := 11) (embc := rhe0J _ _) [rhI _] dX7_swapped_11 ml_X7_77 ms_X7_ones (c_X7_ones _ _ _ _) (by decide) (by decide) rfl (Nat.le_of_ble_eq_true rfl) (fun r2 _ => ?_)
  refine rhF.land (pc := 14) dX7_swapped_14 ?_
  refine rhF.lstore (pc := 15) (L' := [(4, rhJ _), (0, rhR _), (1, rhI _), (2, rhI _), (3, rhI _)]) dX7_swapped_15 (by decide) rfl ?_
  refine rhF.aload_n (pc := 17) dX7_swapped_17 1 rfl ?_
  refine rhF.get (pc := 18) (rhJ _) dX7_swapped_18 fl_X7_39 h1 rfl ?_
  refine rhF.iconst (pc := 21) (v := 4) dX7_swapped_21 (by decide) ?_
  refine rhF.iload_n (pc := 22) dX7_swapped_22 3 rfl ?_
  refine rhF.imul (pc := 23) dX7_swapped_23 ?_
  refine rhF.lushr (pc := 24) dX7_swapped_24 ?_
  refine rhF.iload_n (pc := 25) dX7_swapped_25 4 rfl ?_
  refine rhF.iload_n (pc := 26) dX7_swapped_26 3 rfl ?_
  refine rhF.isub (pc := 27) dX7_swapped_27 ?_
  refine rhF.callS (pc := 28) (embc := rhe0J _ _) [rhI _] dX7_swapped_28 ml_X7_77 ms_X7_ones (c_X7_ones _ _ _ _) (by decide) (by decide) rfl (Nat.le_of_ble_eq_true rfl) (fun r4 _ => ?_)
  refine rhF.land (pc := 31) dX7_swapped_31 ?_
  refine rhF.lstore (pc := 32) (L' := [(6, rhJ _), (4, rhJ _), (0, rhR _), (1, rhI _), (2, rhI _), (3, rhI _)]) dX7_swapped_32 (by decide) rfl ?_
  refine rhF.aload_n (pc := 34) dX7_swapped_34 2 rfl ?_
  refine rhF.get (pc := 35) (rhJ _) dX7_swapped_35 fl_X7_39 h1 rfl ?_
  refine rhF.iload_n (pc := 38) dX7_swapped_38 5 rfl ?_
  refine rhF.iload_n (pc := 39) dX7_swapped_39 3 rfl ?_
  refine rhF.isub (pc := 40) dX7_swapped_40 ?_
  refine rhF.callS (pc := 41) (embc := rhe0J _ _) [rhI _] dX7_swapped_41 ml_X7_77 ms_X7_ones (c_X7_ones _ _ _ _) (by decide) (by decide) rfl (Nat.le_of_ble_eq_true rfl) (fun r6 _ => ?_)
  refine rhF.iconst (pc := 44) (v := 4) dX7_swapped_44 (by decide) ?_
  refine rhF.iload_n (pc := 45) dX7_swapped_45 3 rfl ?_
  refine rhF.imul (pc := 46) dX7_swapped_46 ?_
  refine rhF.lshl (pc := 47) dX7_swapped_47 ?_
  refine rhF.ldc2 (pc := 48) dX7_swapped_48 k_X7_81 ?_
  refine rhF.lxor (pc := 51) dX7_swapped_51 ?_
  refine rhF.land (pc := 52) dX7_swapped_52 ?_
  refine rhF.lstore (pc := 53) (L' := [(8, rhJ _), (6, rhJ _), (4, rhJ _), (0, rhR _), (1, rhI _), (2, rhI _), (3, rhI _)]) dX7_swapped_53 (by decide) rfl ?_
  refine rhF.lload (pc := 55) dX7_swapped_55 0 rfl ?_
  refine rhF.lload (pc := 57) dX7_swapped_57 1 rfl ?_
  refine rhF.iconst (pc := 59) (v := 4) dX7_swapped_59 (by decide) ?_
  refine rhF.iload_n (pc := 60) dX7_swapped_60 4 rfl ?_
  refine rhF.imul (pc := 61) dX7_swapped_61 ?_
  refine rhF.lshl (pc := 62) dX7_swapped_62 ?_
  refine rhF.lor (pc := 63) dX7_swapped_63 ?_
  refine rhF.lload (pc := 64) dX7_swapped_64 2 rfl ?_
  refine rhF.iconst (pc := 66) (v := 4) dX7_swapped_66 (by decide) ?_
  refine rhF.iload_n (pc := 67) dX7_swapped_67 4 rfl ?_
  refine rhF.iload_n (pc := 68) dX7_swapped_68 6 rfl ?_
  refine rhF.iadd (pc := 69) dX7_swapped_69 ?_
  refine rhF.iload_n (pc := 70) dX7_swapped_70 5 rfl ?_
  refine rhF.isub (pc := 71) dX7_swapped_71 ?_
  refine rhF.imul (pc := 72) dX7_swapped_72 ?_
  refine rhF.lshl (pc := 73) dX7_swapped_73 ?_
  refine rhF.lor (pc := 74) dX7_swapped_74 ?_
  exact rhF.lret (pc := 75) dX7_swapped_75 rfl rfl
theorem c_X7_swapped (E : rhE) (Γ : rhG) (M : rhM) (v0 : Nat) (v1 : Int32) (v2 : Int32) (v3 : Int32) : ∀ a, f_X7_swapped Γ M v0 v1 v2 v3 = some a → rhC E 5 yX7_swapped cX7_swapped 10 (some .long) [rhR v0, rhI v1, rhI v2, rhI v3] Γ M ((rhe0J Γ M) a) := rhF.met (by decide +kernel) (Nat.le_of_ble_eq_true rfl) (b_X7_swapped v0 v1 v2 v3)
def f_X7_after (Γ : rhG) (M : rhM) (v0 : Nat) (v1 : Int32) (v2 : Int32) (v3 : Int32) : Option (Int64) :=
  rhck (Γ.2.2.1 v0 = 8) <|
  rhck (Γ.2.2.1 (M.2.2 v0 3) = 15) <|
  rhck (0 ≤ (v1).toInt ∧ (v1).toInt < (Γ.2.2.2 (M.2.2 v0 3) : Nat)) <|
  let x4 := M.1 (M.2.2 v0 3) v1.toNatClampNeg
  if v1 < v3 then
    (rhck (0 ≤ (v3).toInt ∧ (v3).toInt < (Γ.2.2.2 (M.2.2 v0 3) : Nat)) <|
    (f_X7_swapped Γ M v0 (x4 - v2) x4 (M.1 (M.2.2 v0 3) v3.toNatClampNeg)).bind fun r7 =>
    some r7)
  else
    rhck (0 ≤ (v3).toInt ∧ (v3).toInt < (Γ.2.2.2 (M.2.2 v0 3) : Nat)) <|
    (f_X7_swapped Γ M v0 (M.1 (M.2.2 v0 3) v3.toNatClampNeg) (x4 - v2) x4).bind fun r9 =>
    some r9
set_option maxHeartbeats 4000000 in
set_option maxRecDepth 100000 in
theorem b_X7_after {E : rhE} {Γ : rhG} {M : rhM} : ∀ (v0 : Nat) (v1 : Int32) (v2 : Int32) (v3 : Int32), rhF E 6 5 yX7_after cX7_after (some .long) Γ (rhe0J Γ M) (f_X7_after Γ M v0 v1 v2 v3) 0 [(0, rhR v0), (1, rhI v1), (2, rhI v2), (3, rhI v3)] [] Γ M := by
  intro v0 v1 v2 v3
  rw [f_X7_after]
  refine rhF.aload_n (pc := 0) dX7_after_0 0 rfl ?_
  refine rhF.ck (fun h1 => ?_)
  refine rhF.get (pc := 1) (rhR _) dX7_after_1 fl_X7_15 h1 rfl ?_
  refine rhF.iload_n (pc := 4) dX7_after_4 1 rfl ?_
  refine rhF.ck (fun h2 => ?_)
  refine rhF.ck (fun h3 => ?_)
  refine rhF.iald (pc := 5) dX7_after_5 h2 h3 ?_
  refine rhF.istore (pc := 6) (L' := [(4, rhI _), (0, rhR _), (1, rhI _), (2, rhI _), (3, rhI _)]) dX7_after_6 (by decide) rfl ?_
  refine rhF.iload_n (pc := 8) dX7_after_8 2 rfl ?_
  refine rhF.iload_n (pc := 9) dX7_after_9 4 rfl ?_
  refine rhF.icmp_ge (pc := 10) 32 dX7_after_10 (by decide) (fun h5 => ?_) (fun h5 => ?_)
  · refine rhF.aload_n (pc := 13) dX7_after_13 1 rfl ?_
    refine rhF.iload (pc := 14) dX7_after_14 0 rfl ?_
    refine rhF.iload_n (pc := 16) dX7_after_16 3 rfl ?_
    refine rhF.isub (pc := 17) dX7_after_17 ?_
    refine rhF.iload (pc := 18) dX7_after_18 0 rfl ?_
    refine rhF.aload_n (pc := 20) dX7_after_20 1 rfl ?_
    refine rhF.get (pc := 21) (rhR _) dX7_after_21 fl_X7_15 h1 rfl ?_
    refine rhF.iload_n (pc := 24) dX7_after_24 4 rfl ?_
    refine rhF.ck (fun h6 => ?_)
    refine rhF.iald (pc := 25) dX7_after_25 h2 h6 ?_
    refine rhF.callV (pc := 26) (ci := 7) (embc := rhe0J _ _) [rhI _, rhI _, rhI _] dX7_after_26 ml_X7_73 mv_X7_swapped ⟨_, rfl, rfl⟩ h1 (c_X7_swapped _ _ _ _ _ _ _) (by decide) (by decide) rfl (Nat.le_of_ble_eq_true rfl) (fun r7 _ => ?_)
    refine rhF.goto (pc := 29) 48 dX7_after_29 (by decide) ?_
    exact rhF.lret (pc := 48) dX7_after_48 rfl rfl
  · refine rhF.aload_n (pc := 32) dX7_after_32 1 rfl ?_
    refine rhF.aload_n (pc := 33) dX7_after_33 1 rfl ?_
    refine rhF.get (pc := 34) (rhR _) dX7_after_34 fl_X7_15 h1 rfl ?_
    refine rhF.iload_n (pc := 37) dX7_after_37 4 rfl ?_
    refine rhF.ck (fun h8 => ?_)
    refine rhF.iald (pc := 38) dX7_after_38 h2 h8 ?_
    refine rhF.iload (pc := 39) dX7_after_39 0 rfl ?_
    refine rhF.iload_n (pc := 41) dX7_after_41 3 rfl ?_
    refine rhF.isub (pc := 42) dX7_after_42 ?_
    refine rhF.iload (pc := 43) dX7_after_43 0 rfl ?_
    refine rhF.callV (pc := 45) (ci := 7) (embc := rhe0J _ _) [rhI _, rhI _, rhI _] dX7_after_45 ml_X7_73 mv_X7_swapped ⟨_, rfl, rfl⟩ h1 (c_X7_swapped _ _ _ _ _ _ _) (by decide) (by decide) rfl (Nat.le_of_ble_eq_true rfl) (fun r9 _ => ?_)
    exact rhF.lret (pc := 48) dX7_after_48 rfl rfl
theorem c_X7_after (E : rhE) (Γ : rhG) (M : rhM) (v0 : Nat) (v1 : Int32) (v2 : Int32) (v3 : Int32) : ∀ a, f_X7_after Γ M v0 v1 v2 v3 = some a → rhC E 6 yX7_after cX7_after 5 (some .long) [rhR v0, rhI v1, rhI v2, rhI v3] Γ M ((rhe0J Γ M) a) := rhF.met (by decide +kernel) (Nat.le_of_ble_eq_true rfl) (b_X7_after v0 v1 v2 v3)
def f_X7_nextWord (Γ : rhG) (M : rhM) (v0 : Nat) (v1 : Int32) : Option (Int64) :=
  rhck (Γ.2.2.1 v0 = 8) <|
  rhck (Γ.2.2.1 (M.2.2 v0 7) = 15) <|
  rhck (0 ≤ (v1).toInt ∧ (v1).toInt < (Γ.2.2.2 (M.2.2 v0 7) : Nat)) <|
  let x4 := M.1 (M.2.2 v0 7) v1.toNatClampNeg
  (f_X3_fromOf Γ M x4).bind fun r5 =>
  (f_X3_manyOf Γ M x4).bind fun r6 =>
  (f_X3_toOf Γ M x4).bind fun r7 =>
  (f_X7_after Γ M v0 r5 r6 r7).bind fun r8 =>
  some r8
set_option maxHeartbeats 4000000 in
set_option maxRecDepth 100000 in
theorem b_X7_nextWord {E : rhE} {Γ : rhG} {M : rhM} : ∀ (v0 : Nat) (v1 : Int32), rhF E 7 3 yX7_nextWord cX7_nextWord (some .long) Γ (rhe0J Γ M) (f_X7_nextWord Γ M v0 v1) 0 [(0, rhR v0), (1, rhI v1)] [] Γ M := by
  intro v0 v1
  rw [f_X7_nextWord]
  refine rhF.aload_n (pc := 0) dX7_nextWord_0 0 rfl ?_
  refine rhF.ck (fun h1 => ?_)
  refine rhF.get (pc := 1) (rhR _) dX7_nextWord_1 fl_X7_24 h1 rfl ?_
  refine rhF.iload_n (pc := 4) dX7_nextWord_4 1 rfl ?_
  refine rhF.ck (fun h2 => ?_)
  refine rhF.ck (fun h3 => ?_)
  refine rhF.iald (pc := 5) dX7_nextWord_5 h2 h3 ?_
  refine rhF.istore_n (pc := 6) (L' := [(2, rhI _), (0, rhR _), (1, rhI _)]) dX7_nextWord_6 (by decide) rfl ?_
  refine rhF.aload_n (pc := 7) dX7_nextWord_7 1 rfl ?_
  refine rhF.iload_n (pc := 8) dX7_nextWord_8 0 rfl ?_
  refine rhF.callS (pc := 9) (embc := rhe0I _ _) [rhI _] dX7_nextWord_9 ml_X7_101 ms_X3_fromOf (c_X3_fromOf _ _ _ _) (by decide) (by decide) rfl (Nat.le_of_ble_eq_true rfl) (fun r5 _ => ?_)
  refine rhF.iload_n (pc := 12) dX7_nextWord_12 0 rfl ?_
  refine rhF.callS (pc := 13) (embc := rhe0I _ _) [rhI _] dX7_nextWord_13 ml_X7_104 ms_X3_manyOf (c_X3_manyOf _ _ _ _) (by decide) (by decide) rfl (Nat.le_of_ble_eq_true rfl) (fun r6 _ => ?_)
  refine rhF.iload_n (pc := 16) dX7_nextWord_16 0 rfl ?_
  refine rhF.callS (pc := 17) (embc := rhe0I _ _) [rhI _] dX7_nextWord_17 ml_X7_107 ms_X3_toOf (c_X3_toOf _ _ _ _) (by decide) (by decide) rfl (Nat.le_of_ble_eq_true rfl) (fun r7 _ => ?_)
  refine rhF.callV (pc := 20) (ci := 7) (embc := rhe0J _ _) [rhI _, rhI _, rhI _] dX7_nextWord_20 ml_X7_110 mv_X7_after ⟨_, rfl, rfl⟩ h1 (c_X7_after _ _ _ _ _ _ _) (by decide) (by decide) rfl (Nat.le_of_ble_eq_true rfl) (fun r8 _ => ?_)
  exact rhF.lret (pc := 23) dX7_nextWord_23 rfl rfl
theorem c_X7_nextWord (E : rhE) (Γ : rhG) (M : rhM) (v0 : Nat) (v1 : Int32) : ∀ a, f_X7_nextWord Γ M v0 v1 = some a → rhC E 7 yX7_nextWord cX7_nextWord 3 (some .long) [rhR v0, rhI v1] Γ M ((rhe0J Γ M) a) := rhF.met (by decide +kernel) (Nat.le_of_ble_eq_true rfl) (b_X7_nextWord v0 v1)
def f_X5_goOn_121 (k44 : rhM → Nat → Int32 → Int32 → Option (Int32 × rhM)) (Γ : rhG) (M : rhM) (v0 : Nat) (v1 : Int32) (v2 : Int32) : Option (Int32 × rhM) :=
  let x19 : Int32 := v2 + 1
  k44 M v0 v1 x19
def f_X5_goOn_44 (Γ : rhG) : Nat → rhM → Nat → Int32 → Int32 → Option (Int32 × rhM)
  | 0, _, _, _, _ => none
  | n + 1, M, v0, v1, v2 =>
    rhck (Γ.2.2.1 v0 = 6) <|
    rhck (Γ.2.2.1 (M.2.2 v0 4) = 8) <|
    if v2 < (M.1 (M.2.2 v0 4) 6) then
      (rhck (Γ.2.2.1 (M.2.2 (M.2.2 v0 4) 11) = 15) <|
      rhck (0 ≤ (v2).toInt ∧ (v2).toInt < (Γ.2.2.2 (M.2.2 (M.2.2 v0 4) 11) : Nat)) <|
      let x15 := M.1 (M.2.2 (M.2.2 v0 4) 11) v2.toNatClampNeg
      rhck (Γ.2.2.1 (M.2.2 v0 1) = 1) <|
      (f_X0_isNew Γ M (M.2.2 v0 1) x15).bind fun r17 =>
      if r17 = 0 then
        (f_X5_goOn_121 (f_X5_goOn_44 Γ n) Γ M v0 v1 v2)
      else
        rhck (Γ.2.2.1 (M.2.2 (M.2.2 v0 4) 7) = 15) <|
        rhck (0 ≤ (v2).toInt ∧ (v2).toInt < (Γ.2.2.2 (M.2.2 (M.2.2 v0 4) 7) : Nat)) <|
        (f_X0_lead Γ M (M.2.2 v0 1) x15 v1 (M.1 (M.2.2 (M.2.2 v0 4) 7) v2.toNatClampNeg)).bind fun r22 =>
        rhck (Γ.2.2.1 (r22.2.2 v0 1) = 1) <|
        (f_X0_put Γ r22 (r22.2.2 v0 1) x15 (0 : Int32)).bind fun r24 =>
        rhck (Γ.2.2.1 (r24.2.2 v0 4) = 8) <|
        (f_X7_nextWord Γ r24 (r24.2.2 v0 4) v2).bind fun r26 =>
        (f_X5_isMet Γ r24 v0 x15 r26).bind fun r27 =>
        if r27.1 = 0 then
          (f_X5_goOn_121 (f_X5_goOn_44 Γ n) Γ r27.2 v0 v1 v2)
        else
          some ((x15, r27.2)))
    else
      some (((-1), M))
def f_X5_goOn (Γ : rhG) (M : rhM) (v0 : Nat) (v1 : Int32) : Option (Int32 × rhM) :=
  rhck (Γ.2.2.1 v0 = 6) <|
  rhck (Γ.2.2.1 (M.2.2 v0 2) = 11) <|
  (f_X10_wordOf Γ M (M.2.2 v0 2) v1).bind fun r3 =>
  rhck (Γ.2.2.1 (M.2.2 v0 4) = 8) <|
  (f_X7_look Γ M (M.2.2 v0 4) (M.2.2 v0 5) r3).bind fun r5 =>
  rhck (Γ.2.2.1 (r5.2.2 v0 4) = 8) <|
  (f_X7_listPulls Γ r5 (r5.2.2 v0 4) (r5.2.2 v0 3)).bind fun r7 =>
  rhck (Γ.2.2.1 (r7.2.2 v0 2) = 11) <|
  (f_X10_follow Γ r7 (r7.2.2 v0 2) v1 (r7.2.2 v0 4)).bind fun r9 =>
  f_X5_goOn_44 Γ rhFU r9 v0 v1 0
set_option maxHeartbeats 4000000 in
set_option maxRecDepth 100000 in
theorem b_X5_goOn_121 {E : rhE} {Γ : rhG} {k44 : rhM → Nat → Int32 → Int32 → Option (Int32 × rhM)} (hk44 : ∀ (M : rhM) (v0 : Nat) (v1 : Int32) (v2 : Int32), rhF E 9 4 yX5_goOn cX5_goOn (some .int) Γ (rhe1I Γ) (k44 M v0 v1 v2) 44 [(0, rhR v0), (1, rhI v1), (2, rhI v2)] [] Γ M) : ∀ (M : rhM) (v0 : Nat) (v1 : Int32) (v2 : Int32), rhF E 9 4 yX5_goOn cX5_goOn (some .int) Γ (rhe1I Γ) (f_X5_goOn_121 k44 Γ M v0 v1 v2) 121 [(0, rhR v0), (1, rhI v1), (2, rhI v2)] [] Γ M := by
  intro M v0 v1 v2
  rw [f_X5_goOn_121]
  refine rhF.iinc (pc := 121) (L' := [(2, rhI _), (0, rhR _), (1, rhI _)]) dX5_goOn_121 2 rfl rfl (by decide) rfl ?_
  refine rhF.goto (pc := 124) 44 dX5_goOn_124 (by decide) ?_
  refine rhF.sub [1, 2, 0] rfl ?_
  exact hk44 _ _ _ _
set_option maxHeartbeats 4000000 in
set_option maxRecDepth 100000 in
theorem b_X5_goOn_44 {E : rhE} {Γ : rhG} : ∀ (n : Nat) (M : rhM) (v0 : Nat) (v1 : Int32) (v2 : Int32), rhF E 9 4 yX5_goOn cX5_goOn (some .int) Γ (rhe1I Γ) (f_X5_goOn_44 Γ n M v0 v1 v2) 44 [(0, rhR v0), (1, rhI v1), (2, rhI v2)] [] Γ M := by
  intro n
  induction n with
  | zero => intro M v0 v1 v2; rw [f_X5_goOn_44]; exact rhF.nope
  | succ n ih =>
    intro M v0 v1 v2
    rw [f_X5_goOn_44]
    refine rhF.iload_n (pc := 44) dX5_goOn_44 2 rfl ?_
    refine rhF.aload_n (pc := 45) dX5_goOn_45 0 rfl ?_
    refine rhF.ck (fun h10 => ?_)
    refine rhF.get (pc := 46) (rhR _) dX5_goOn_46 fl_X5_41 h10 rfl ?_
    refine rhF.ck (fun h11 => ?_)
    refine rhF.get (pc := 49) (rhI _) dX5_goOn_49 fl_X5_144 h11 rfl ?_
    refine rhF.icmp_ge (pc := 52) 127 dX5_goOn_52 (by decide) (fun h12 => ?_) (fun h12 => ?_)
    · refine rhF.aload_n (pc := 55) dX5_goOn_55 0 rfl ?_
      refine rhF.get (pc := 56) (rhR _) dX5_goOn_56 fl_X5_41 h10 rfl ?_
      refine rhF.get (pc := 59) (rhR _) dX5_goOn_59 fl_X5_147 h11 rfl ?_
      refine rhF.iload_n (pc := 62) dX5_goOn_62 2 rfl ?_
      refine rhF.ck (fun h13 => ?_)
      refine rhF.ck (fun h14 => ?_)
      refine rhF.iald (pc := 63) dX5_goOn_63 h13 h14 ?_
      refine rhF.istore_n (pc := 64) (L' := [(3, rhI _), (0, rhR _), (1, rhI _), (2, rhI _)]) dX5_goOn_64 (by decide) rfl ?_
      refine rhF.aload_n (pc := 65) dX5_goOn_65 1 rfl ?_
      refine rhF.get (pc := 66) (rhR _) dX5_goOn_66 fl_X5_14 h10 rfl ?_
      refine rhF.iload_n (pc := 69) dX5_goOn_69 0 rfl ?_
      refine rhF.ck (fun h16 => ?_)
      refine rhF.callV (pc := 70) (ci := 0) (embc := rhe0I _ _) [rhI _] dX5_goOn_70 ml_X5_103 mv_X0_isNew ⟨_, rfl, rfl⟩ h16 (c_X0_isNew _ _ _ _ _) (by decide) (by decide) rfl (Nat.le_of_ble_eq_true rfl) (fun r17 _ => ?_)
      refine rhF.if_eq (pc := 73) 121 dX5_goOn_73 (by decide) (fun h18 => ?_) (fun h18 => ?_)
      · refine rhF.sub [1, 2, 3] rfl ?_
        exact (b_X5_goOn_121 ih) _ _ _ _
      · refine rhF.aload_n (pc := 76) dX5_goOn_76 1 rfl ?_
        refine rhF.get (pc := 77) (rhR _) dX5_goOn_77 fl_X5_14 h10 rfl ?_
        refine rhF.iload_n (pc := 80) dX5_goOn_80 0 rfl ?_
        refine rhF.iload_n (pc := 81) dX5_goOn_81 2 rfl ?_
        refine rhF.aload_n (pc := 82) dX5_goOn_82 1 rfl ?_
        refine rhF.get (pc := 83) (rhR _) dX5_goOn_83 fl_X5_41 h10 rfl ?_
        refine rhF.get (pc := 86) (rhR _) dX5_goOn_86 fl_X5_151 h11 rfl ?_
        refine rhF.iload_n (pc := 89) dX5_goOn_89 3 rfl ?_
        refine rhF.ck (fun h20 => ?_)
        refine rhF.ck (fun h21 => ?_)
        refine rhF.iald (pc := 90) dX5_goOn_90 h20 h21 ?_
        refine rhF.callV (pc := 91) (ci := 0) (embc := rhe1U _) [rhI _, rhI _, rhI _] dX5_goOn_91 ml_X5_107 mv_X0_lead ⟨_, rfl, rfl⟩ h16 (c_X0_lead _ _ _ _ _ _ _) (by decide) (by decide) rfl (Nat.le_of_ble_eq_true rfl) (fun r22 _ => ?_)
        refine rhF.aload_n (pc := 94) dX5_goOn_94 1 rfl ?_
        refine rhF.get (pc := 95) (rhR _) dX5_goOn_95 fl_X5_14 h10 rfl ?_
        refine rhF.iload_n (pc := 98) dX5_goOn_98 0 rfl ?_
        refine rhF.iconst (pc := 99) (v := 0) dX5_goOn_99 (by decide) ?_
        refine rhF.ck (fun h23 => ?_)
        refine rhF.callV (pc := 100) (ci := 0) (embc := rhe1U _) [rhI _, rhI _] dX5_goOn_100 ml_X5_111 mv_X0_put ⟨_, rfl, rfl⟩ h23 (c_X0_put _ _ _ _ _ _) (by decide) (by decide) rfl (Nat.le_of_ble_eq_true rfl) (fun r24 _ => ?_)
        refine rhF.aload_n (pc := 103) dX5_goOn_103 1 rfl ?_
        refine rhF.iload_n (pc := 104) dX5_goOn_104 0 rfl ?_
        refine rhF.aload_n (pc := 105) dX5_goOn_105 1 rfl ?_
        refine rhF.get (pc := 106) (rhR _) dX5_goOn_106 fl_X5_41 h10 rfl ?_
        refine rhF.iload_n (pc := 109) dX5_goOn_109 3 rfl ?_
        refine rhF.ck (fun h25 => ?_)
        refine rhF.callV (pc := 110) (ci := 7) (embc := rhe0J _ _) [rhI _] dX5_goOn_110 ml_X5_154 mv_X7_nextWord ⟨_, rfl, rfl⟩ h25 (c_X7_nextWord _ _ _ _ _) (by decide) (by decide) rfl (Nat.le_of_ble_eq_true rfl) (fun r26 _ => ?_)
        refine rhF.callV (pc := 113) (ci := 5) (embc := rhe1I _) [rhI _, rhJ _] dX5_goOn_113 ml_X5_118 mv_X5_isMet ⟨_, rfl, rfl⟩ h10 (c_X5_isMet _ _ _ _ _ _) (by decide) (by decide) rfl (Nat.le_of_ble_eq_true rfl) (fun r27 _ => ?_)
        refine rhF.if_eq (pc := 116) 121 dX5_goOn_116 (by decide) (fun h28 => ?_) (fun h28 => ?_)
        · refine rhF.sub [1, 2, 3] rfl ?_
          exact (b_X5_goOn_121 ih) _ _ _ _
        · refine rhF.iload_n (pc := 119) dX5_goOn_119 0 rfl ?_
          exact rhF.zret (pc := 120) dX5_goOn_120 rfl rfl rfl
    · refine rhF.iconst (pc := 127) (v := (-1)) dX5_goOn_127 (by decide) ?_
      exact rhF.zret (pc := 128) dX5_goOn_128 rfl rfl rfl
set_option maxHeartbeats 4000000 in
set_option maxRecDepth 100000 in
theorem b_X5_goOn {E : rhE} {Γ : rhG} : ∀ (M : rhM) (v0 : Nat) (v1 : Int32), rhF E 9 4 yX5_goOn cX5_goOn (some .int) Γ (rhe1I Γ) (f_X5_goOn Γ M v0 v1) 0 [(0, rhR v0), (1, rhI v1)] [] Γ M := by
  intro M v0 v1
  rw [f_X5_goOn]
  refine rhF.aload_n (pc := 0) dX5_goOn_0 0 rfl ?_
  refine rhF.ck (fun h1 => ?_)
  refine rhF.get (pc := 1) (rhR _) dX5_goOn_1 fl_X5_41 h1 rfl ?_
  refine rhF.aload_n (pc := 4) dX5_goOn_4 0 rfl ?_
  refine rhF.get (pc := 5) (rhR _) dX5_goOn_5 fl_X5_77 h1 rfl ?_
  refine rhF.aload_n (pc := 8) dX5_goOn_8 0 rfl ?_
  refine rhF.get (pc := 9) (rhR _) dX5_goOn_9 fl_X5_23 h1 rfl ?_
  refine rhF.iload_n (pc := 12) dX5_goOn_12 1 rfl ?_
  refine rhF.ck (fun h2 => ?_)
  refine rhF.callV (pc := 13) (ci := 10) (embc := rhe0J _ _) [rhI _] dX5_goOn_13 ml_X5_129 mv_X10_wordOf ⟨_, rfl, rfl⟩ h2 (c_X10_wordOf _ _ _ _ _) (by decide) (by decide) rfl (Nat.le_of_ble_eq_true rfl) (fun r3 _ => ?_)
  refine rhF.ck (fun h4 => ?_)
  refine rhF.callV (pc := 16) (ci := 7) (embc := rhe1U _) [rhR _, rhJ _] dX5_goOn_16 ml_X5_132 mv_X7_look ⟨_, rfl, rfl⟩ h4 (c_X7_look _ _ _ _ _ _) (by decide) (by decide) rfl (Nat.le_of_ble_eq_true rfl) (fun r5 _ => ?_)
  refine rhF.aload_n (pc := 19) dX5_goOn_19 0 rfl ?_
  refine rhF.get (pc := 20) (rhR _) dX5_goOn_20 fl_X5_41 h1 rfl ?_
  refine rhF.aload_n (pc := 23) dX5_goOn_23 0 rfl ?_
  refine rhF.get (pc := 24) (rhR _) dX5_goOn_24 fl_X5_34 h1 rfl ?_
  refine rhF.ck (fun h6 => ?_)
  refine rhF.callV (pc := 27) (ci := 7) (embc := rhe1U _) [rhR _] dX5_goOn_27 ml_X5_136 mv_X7_listPulls ⟨_, rfl, rfl⟩ h6 (c_X7_listPulls _ _ _ _ _) (by decide) (by decide) rfl (Nat.le_of_ble_eq_true rfl) (fun r7 _ => ?_)
  refine rhF.aload_n (pc := 30) dX5_goOn_30 0 rfl ?_
  refine rhF.get (pc := 31) (rhR _) dX5_goOn_31 fl_X5_23 h1 rfl ?_
  refine rhF.iload_n (pc := 34) dX5_goOn_34 1 rfl ?_
  refine rhF.aload_n (pc := 35) dX5_goOn_35 0 rfl ?_
  refine rhF.get (pc := 36) (rhR _) dX5_goOn_36 fl_X5_41 h1 rfl ?_
  refine rhF.ck (fun h8 => ?_)
  refine rhF.callV (pc := 39) (ci := 10) (embc := rhe1U _) [rhI _, rhR _] dX5_goOn_39 ml_X5_140 mv_X10_follow ⟨_, rfl, rfl⟩ h8 (c_X10_follow _ _ _ _ _ _) (by decide) (by decide) rfl (Nat.le_of_ble_eq_true rfl) (fun r9 _ => ?_)
  refine rhF.iconst (pc := 42) (v := 0) dX5_goOn_42 (by decide) ?_
  refine rhF.istore_n (pc := 43) (L' := [(2, rhI _), (0, rhR _), (1, rhI _)]) dX5_goOn_43 (by decide) rfl ?_
  refine rhF.sub [1, 2, 0] rfl ?_
  exact (b_X5_goOn_44 rhFU) _ _ _ _
theorem c_X5_goOn (E : rhE) (Γ : rhG) (M : rhM) (v0 : Nat) (v1 : Int32) : ∀ a, f_X5_goOn Γ M v0 v1 = some a → rhC E 9 yX5_goOn cX5_goOn 4 (some .int) [rhR v0, rhI v1] Γ M ((rhe1I Γ) a) := rhF.met (by decide +kernel) (Nat.le_of_ble_eq_true rfl) (b_X5_goOn M v0 v1)
def f_X10_init (Γ : rhG) (M : rhM) (v0 : Nat) : Option (rhG × rhM) :=
  rhck (Γ.2.2.1 v0 = 11) <|
  rhck (0 ≤ (6 : Int32).toInt ∧ (6 : Int32).toInt ≤ 67108864) <|
  let M4 := rhmn M (nu (Γ.1 + 1))
  let G3 := rhgn Γ 15 (6 : Int32).toNatClampNeg (6 : Int32).toNatClampNeg
  rhck (G3.2.2.1 v0 = 11) <|
  let M6 := rhsr M4 v0 2 ((nu (Γ.1 + 1)))
  rhck (0 ≤ (64 : Int32).toInt ∧ (64 : Int32).toInt ≤ 67108864) <|
  let M9 := rhmn M6 (nu (G3.1 + 1))
  let G8 := rhgn G3 15 (64 : Int32).toNatClampNeg (64 : Int32).toNatClampNeg
  rhck (G8.2.2.1 v0 = 11) <|
  let M11 := rhsr M9 v0 3 ((nu (G3.1 + 1)))
  rhck (0 ≤ (4096 : Int32).toInt ∧ (4096 : Int32).toInt ≤ 67108864) <|
  let M14 := rhmn M11 (nu (G8.1 + 1))
  let G13 := rhgn G8 15 (4096 : Int32).toNatClampNeg (4096 : Int32).toNatClampNeg
  rhck (G13.2.2.1 v0 = 11) <|
  let M16 := rhsr M14 v0 4 ((nu (G8.1 + 1)))
  some (G13, M16)
set_option maxHeartbeats 4000000 in
set_option maxRecDepth 100000 in
theorem b_X10_init {E : rhE} {Γ0 : rhG} : ∀ (Γ : rhG) (M : rhM) (v0 : Nat), rhF E 5 1 yX10_init cX10_init none Γ0 rhe2U (f_X10_init Γ M v0) 0 [(0, rhR v0)] [] Γ M := by
  intro Γ M v0
  rw [f_X10_init]
  refine rhF.aload_n (pc := 0) dX10_init_0 0 rfl ?_
  refine rhF.ck (fun h1 => ?_)
  refine rhF.objInit (pc := 1) dX10_init_1 oi_X10_3 (fun z => absurd (h1.symm.trans z) (by decide)) (by decide) (Nat.le_of_ble_eq_true rfl) ?_
  refine rhF.aload_n (pc := 4) dX10_init_4 0 rfl ?_
  refine rhF.bipush (pc := 5) (v := 6) dX10_init_5 (by decide) ?_
  refine rhF.ck (fun h2 => ?_)
  refine rhF.newI (pc := 7) dX10_init_7 ac_int h2 ?_
  refine rhF.ck (fun h5 => ?_)
  refine rhF.putr (pc := 9) dX10_init_9 fl_X10_9 h5 (fun q hq => by cases hq; exact Or.inr ⟨rfl, rfl, rfl⟩) (Or.inr ⟨_, rfl⟩) (fun _ => rfl) ?_
  refine rhF.aload_n (pc := 12) dX10_init_12 0 rfl ?_
  refine rhF.bipush (pc := 13) (v := 64) dX10_init_13 (by decide) ?_
  refine rhF.ck (fun h7 => ?_)
  refine rhF.newI (pc := 15) dX10_init_15 ac_int h7 ?_
  refine rhF.ck (fun h10 => ?_)
  refine rhF.putr (pc := 17) dX10_init_17 fl_X10_15 h10 (fun q hq => by cases hq; exact Or.inr ⟨rfl, rfl, rfl⟩) (Or.inr ⟨_, rfl⟩) (fun _ => rfl) ?_
  refine rhF.aload_n (pc := 20) dX10_init_20 0 rfl ?_
  refine rhF.sipush (pc := 21) (v := 4096) dX10_init_21 (by decide) ?_
  refine rhF.ck (fun h12 => ?_)
  refine rhF.newI (pc := 24) dX10_init_24 ac_int h12 ?_
  refine rhF.ck (fun h15 => ?_)
  refine rhF.putr (pc := 26) dX10_init_26 fl_X10_18 h15 (fun q hq => by cases hq; exact Or.inr ⟨rfl, rfl, rfl⟩) (Or.inr ⟨_, rfl⟩) (fun _ => rfl) ?_
  exact rhF.vret (pc := 29) dX10_init_29 rfl rfl
theorem c_X10_init (E : rhE) (Γ : rhG) (M : rhM) (v0 : Nat) : ∀ a, f_X10_init Γ M v0 = some a → rhC E 5 yX10_init cX10_init 1 none [rhR v0] Γ M (rhe2U a) := rhF.met (by decide +kernel) (Nat.le_of_ble_eq_true rfl) (b_X10_init (Γ0 := Γ) Γ M v0)
def f_X7_init (Γ : rhG) (M : rhM) (v0 : Nat) : Option (rhG × rhM) :=
  rhck (Γ.2.2.1 v0 = 8) <|
  rhck (0 ≤ (5 : Int32).toInt ∧ (5 : Int32).toInt ≤ 67108864) <|
  let M4 := rhmn M (nu (Γ.1 + 1))
  let G3 := rhgn Γ 15 (5 : Int32).toNatClampNeg (5 : Int32).toNatClampNeg
  rhck (G3.2.2.1 v0 = 8) <|
  let M6 := rhsr M4 v0 2 ((nu (Γ.1 + 1)))
  rhck (0 ≤ (5 : Int32).toInt ∧ (5 : Int32).toInt ≤ 67108864) <|
  let M9 := rhmn M6 (nu (G3.1 + 1))
  let G8 := rhgn G3 15 (5 : Int32).toNatClampNeg (5 : Int32).toNatClampNeg
  rhck (G8.2.2.1 v0 = 8) <|
  let M11 := rhsr M9 v0 3 ((nu (G3.1 + 1)))
  rhck (0 ≤ (5 : Int32).toInt ∧ (5 : Int32).toInt ≤ 67108864) <|
  let M14 := rhmn M11 (nu (G8.1 + 1))
  let G13 := rhgn G8 15 (5 : Int32).toNatClampNeg (5 : Int32).toNatClampNeg
  rhck (G13.2.2.1 v0 = 8) <|
  let M16 := rhsr M14 v0 4 ((nu (G8.1 + 1)))
  rhck (0 ≤ (5 : Int32).toInt ∧ (5 : Int32).toInt ≤ 67108864) <|
  let M19 := rhmn M16 (nu (G13.1 + 1))
  let G18 := rhgn G13 15 (5 : Int32).toNatClampNeg (5 : Int32).toNatClampNeg
  rhck (G18.2.2.1 v0 = 8) <|
  let M21 := rhsr M19 v0 5 ((nu (G13.1 + 1)))
  rhck (0 ≤ (32 : Int32).toInt ∧ (32 : Int32).toInt ≤ 67108864) <|
  let M24 := rhmn M21 (nu (G18.1 + 1))
  let G23 := rhgn G18 15 (32 : Int32).toNatClampNeg (32 : Int32).toNatClampNeg
  rhck (G23.2.2.1 v0 = 8) <|
  let M26 := rhsr M24 v0 7 ((nu (G18.1 + 1)))
  rhck (0 ≤ (32 : Int32).toInt ∧ (32 : Int32).toInt ≤ 67108864) <|
  let M29 := rhmn M26 (nu (G23.1 + 1))
  let G28 := rhgn G23 15 (32 : Int32).toNatClampNeg (32 : Int32).toNatClampNeg
  rhck (G28.2.2.1 v0 = 8) <|
  let M31 := rhsr M29 v0 8 ((nu (G23.1 + 1)))
  rhck (0 ≤ (32 : Int32).toInt ∧ (32 : Int32).toInt ≤ 67108864) <|
  let M34 := rhmn M31 (nu (G28.1 + 1))
  let G33 := rhgn G28 15 (32 : Int32).toNatClampNeg (32 : Int32).toNatClampNeg
  rhck (G33.2.2.1 v0 = 8) <|
  let M36 := rhsr M34 v0 9 ((nu (G28.1 + 1)))
  rhck (0 ≤ (32 : Int32).toInt ∧ (32 : Int32).toInt ≤ 67108864) <|
  let M39 := rhmn M36 (nu (G33.1 + 1))
  let G38 := rhgn G33 15 (32 : Int32).toNatClampNeg (32 : Int32).toNatClampNeg
  rhck (G38.2.2.1 v0 = 8) <|
  let M41 := rhsr M39 v0 10 ((nu (G33.1 + 1)))
  rhck (0 ≤ (32 : Int32).toInt ∧ (32 : Int32).toInt ≤ 67108864) <|
  let M44 := rhmn M41 (nu (G38.1 + 1))
  let G43 := rhgn G38 15 (32 : Int32).toNatClampNeg (32 : Int32).toNatClampNeg
  rhck (G43.2.2.1 v0 = 8) <|
  let M46 := rhsr M44 v0 11 ((nu (G38.1 + 1)))
  some (G43, M46)
set_option maxHeartbeats 4000000 in
set_option maxRecDepth 100000 in
theorem b_X7_init {E : rhE} {Γ0 : rhG} : ∀ (Γ : rhG) (M : rhM) (v0 : Nat), rhF E 5 1 yX7_init cX7_init none Γ0 rhe2U (f_X7_init Γ M v0) 0 [(0, rhR v0)] [] Γ M := by
  intro Γ M v0
  rw [f_X7_init]
  refine rhF.aload_n (pc := 0) dX7_init_0 0 rfl ?_
  refine rhF.ck (fun h1 => ?_)
  refine rhF.objInit (pc := 1) dX7_init_1 oi_X7_3 (fun z => absurd (h1.symm.trans z) (by decide)) (by decide) (Nat.le_of_ble_eq_true rfl) ?_
  refine rhF.aload_n (pc := 4) dX7_init_4 0 rfl ?_
  refine rhF.iconst (pc := 5) (v := 5) dX7_init_5 (by decide) ?_
  refine rhF.ck (fun h2 => ?_)
  refine rhF.newI (pc := 6) dX7_init_6 ac_int h2 ?_
  refine rhF.ck (fun h5 => ?_)
  refine rhF.putr (pc := 8) dX7_init_8 fl_X7_9 h5 (fun q hq => by cases hq; exact Or.inr ⟨rfl, rfl, rfl⟩) (Or.inr ⟨_, rfl⟩) (fun _ => rfl) ?_
  refine rhF.aload_n (pc := 11) dX7_init_11 0 rfl ?_
  refine rhF.iconst (pc := 12) (v := 5) dX7_init_12 (by decide) ?_
  refine rhF.ck (fun h7 => ?_)
  refine rhF.newI (pc := 13) dX7_init_13 ac_int h7 ?_
  refine rhF.ck (fun h10 => ?_)
  refine rhF.putr (pc := 15) dX7_init_15 fl_X7_15 h10 (fun q hq => by cases hq; exact Or.inr ⟨rfl, rfl, rfl⟩) (Or.inr ⟨_, rfl⟩) (fun _ => rfl) ?_
  refine rhF.aload_n (pc := 18) dX7_init_18 0 rfl ?_
  refine rhF.iconst (pc := 19) (v := 5) dX7_init_19 (by decide) ?_
  refine rhF.ck (fun h12 => ?_)
  refine rhF.newI (pc := 20) dX7_init_20 ac_int h12 ?_
  refine rhF.ck (fun h15 => ?_)
  refine rhF.putr (pc := 22) dX7_init_22 fl_X7_18 h15 (fun q hq => by cases hq; exact Or.inr ⟨rfl, rfl, rfl⟩) (Or.inr ⟨_, rfl⟩) (fun _ => rfl) ?_
  refine rhF.aload_n (pc := 25) dX7_init_25 0 rfl ?_
  refine rhF.iconst (pc := 26) (v := 5) dX7_init_26 (by decide) ?_
  refine rhF.ck (fun h17 => ?_)
  refine rhF.newI (pc := 27) dX7_init_27 ac_int h17 ?_
  refine rhF.ck (fun h20 => ?_)
  refine rhF.putr (pc := 29) dX7_init_29 fl_X7_21 h20 (fun q hq => by cases hq; exact Or.inr ⟨rfl, rfl, rfl⟩) (Or.inr ⟨_, rfl⟩) (fun _ => rfl) ?_
  refine rhF.aload_n (pc := 32) dX7_init_32 0 rfl ?_
  refine rhF.bipush (pc := 33) (v := 32) dX7_init_33 (by decide) ?_
  refine rhF.ck (fun h22 => ?_)
  refine rhF.newI (pc := 35) dX7_init_35 ac_int h22 ?_
  refine rhF.ck (fun h25 => ?_)
  refine rhF.putr (pc := 37) dX7_init_37 fl_X7_24 h25 (fun q hq => by cases hq; exact Or.inr ⟨rfl, rfl, rfl⟩) (Or.inr ⟨_, rfl⟩) (fun _ => rfl) ?_
  refine rhF.aload_n (pc := 40) dX7_init_40 0 rfl ?_
  refine rhF.bipush (pc := 41) (v := 32) dX7_init_41 (by decide) ?_
  refine rhF.ck (fun h27 => ?_)
  refine rhF.newI (pc := 43) dX7_init_43 ac_int h27 ?_
  refine rhF.ck (fun h30 => ?_)
  refine rhF.putr (pc := 45) dX7_init_45 fl_X7_27 h30 (fun q hq => by cases hq; exact Or.inr ⟨rfl, rfl, rfl⟩) (Or.inr ⟨_, rfl⟩) (fun _ => rfl) ?_
  refine rhF.aload_n (pc := 48) dX7_init_48 0 rfl ?_
  refine rhF.bipush (pc := 49) (v := 32) dX7_init_49 (by decide) ?_
  refine rhF.ck (fun h32 => ?_)
  refine rhF.newI (pc := 51) dX7_init_51 ac_int h32 ?_
  refine rhF.ck (fun h35 => ?_)
  refine rhF.putr (pc := 53) dX7_init_53 fl_X7_30 h35 (fun q hq => by cases hq; exact Or.inr ⟨rfl, rfl, rfl⟩) (Or.inr ⟨_, rfl⟩) (fun _ => rfl) ?_
  refine rhF.aload_n (pc := 56) dX7_init_56 0 rfl ?_
  refine rhF.bipush (pc := 57) (v := 32) dX7_init_57 (by decide) ?_
  refine rhF.ck (fun h37 => ?_)
  refine rhF.newI (pc := 59) dX7_init_59 ac_int h37 ?_
  refine rhF.ck (fun h40 => ?_)
  refine rhF.putr (pc := 61) dX7_init_61 fl_X7_33 h40 (fun q hq => by cases hq; exact Or.inr ⟨rfl, rfl, rfl⟩) (Or.inr ⟨_, rfl⟩) (fun _ => rfl) ?_
  refine rhF.aload_n (pc := 64) dX7_init_64 0 rfl ?_
  refine rhF.bipush (pc := 65) (v := 32) dX7_init_65 (by decide) ?_
  refine rhF.ck (fun h42 => ?_)
  refine rhF.newI (pc := 67) dX7_init_67 ac_int h42 ?_
  refine rhF.ck (fun h45 => ?_)
  refine rhF.putr (pc := 69) dX7_init_69 fl_X7_36 h45 (fun q hq => by cases hq; exact Or.inr ⟨rfl, rfl, rfl⟩) (Or.inr ⟨_, rfl⟩) (fun _ => rfl) ?_
  exact rhF.vret (pc := 72) dX7_init_72 rfl rfl
theorem c_X7_init (E : rhE) (Γ : rhG) (M : rhM) (v0 : Nat) : ∀ a, f_X7_init Γ M v0 = some a → rhC E 5 yX7_init cX7_init 1 none [rhR v0] Γ M (rhe2U a) := rhF.met (by decide +kernel) (Nat.le_of_ble_eq_true rfl) (b_X7_init (Γ0 := Γ) Γ M v0)
def f_X5_init (Γ : rhG) (M : rhM) (v0 : Nat) : Option (rhG × rhM) :=
  rhck (Γ.2.2.1 v0 = 6) <|
  let M3 := rhmn M (nu (Γ.1 + 1))
  let G2 := rhgn Γ 1 0 7
  rhck (G2.2.2.1 ((nu (Γ.1 + 1))) = 1) <|
  (f_X0_init G2 M3 ((nu (Γ.1 + 1))) (0 : Int32)).bind fun r5 =>
  rhck (r5.1.2.2.1 v0 = 6) <|
  let M7 := rhsr r5.2 v0 1 ((nu (Γ.1 + 1)))
  let M9 := rhmn M7 (nu (r5.1.1 + 1))
  let G8 := rhgn r5.1 11 0 5
  rhck (G8.2.2.1 ((nu (r5.1.1 + 1))) = 11) <|
  (f_X10_init G8 M9 ((nu (r5.1.1 + 1)))).bind fun r11 =>
  rhck (r11.1.2.2.1 v0 = 6) <|
  let M13 := rhsr r11.2 v0 2 ((nu (r5.1.1 + 1)))
  let M15 := rhmn M13 (nu (r11.1.1 + 1))
  let G14 := rhgn r11.1 3 0 2
  (f_X2_placesFor G14 M15 (6 : Int32) (4 : Int32)).bind fun r16 =>
  rhck (G14.2.2.1 ((nu (r11.1.1 + 1))) = 3) <|
  (f_X2_init G14 M15 ((nu (r11.1.1 + 1))) r16).bind fun r18 =>
  rhck (r18.1.2.2.1 v0 = 6) <|
  let M20 := rhsr r18.2 v0 3 ((nu (r11.1.1 + 1)))
  let M22 := rhmn M20 (nu (r18.1.1 + 1))
  let G21 := rhgn r18.1 8 0 12
  rhck (G21.2.2.1 ((nu (r18.1.1 + 1))) = 8) <|
  (f_X7_init G21 M22 ((nu (r18.1.1 + 1)))).bind fun r24 =>
  rhck (r24.1.2.2.1 v0 = 6) <|
  let M26 := rhsr r24.2 v0 4 ((nu (r18.1.1 + 1)))
  some (r24.1, M26)
set_option maxHeartbeats 4000000 in
set_option maxRecDepth 100000 in
theorem b_X5_init {E : rhE} {Γ0 : rhG} : ∀ (Γ : rhG) (M : rhM) (v0 : Nat), rhF E 6 1 yX5_init cX5_init none Γ0 rhe2U (f_X5_init Γ M v0) 0 [(0, rhR v0)] [] Γ M := by
  intro Γ M v0
  rw [f_X5_init]
  refine rhF.aload_n (pc := 0) dX5_init_0 0 rfl ?_
  refine rhF.ck (fun h1 => ?_)
  refine rhF.objInit (pc := 1) dX5_init_1 oi_X5_3 (fun z => absurd (h1.symm.trans z) (by decide)) (by decide) (Nat.le_of_ble_eq_true rfl) ?_
  refine rhF.aload_n (pc := 4) dX5_init_4 0 rfl ?_
  refine rhF.new (pc := 5) (ci := 0) dX5_init_5 nw_X5_9 ?_
  refine rhF.dupr (pc := 8) dX5_init_8 ?_
  refine rhF.iconst (pc := 9) (v := 0) dX5_init_9 (by decide) ?_
  refine rhF.ck (fun h4 => ?_)
  refine rhF.callI (pc := 10) (embc := rhe2U) [rhI _] dX5_init_10 ml_X5_11 mi_X0_init (fun z => absurd (h4.symm.trans z) (by decide)) (c_X0_init _ _ _ _ _) (by decide) (by decide) rfl (Nat.le_of_ble_eq_true rfl) (fun r5 _ => ?_)
  refine rhF.ck (fun h6 => ?_)
  refine rhF.putr (pc := 13) dX5_init_13 fl_X5_14 h6 (fun q hq => by cases hq; exact Or.inl rfl) (Or.inl ⟨_, rfl⟩) (fun _ => rfl) ?_
  refine rhF.aload_n (pc := 16) dX5_init_16 0 rfl ?_
  refine rhF.new (pc := 17) (ci := 10) dX5_init_17 nw_X5_20 ?_
  refine rhF.dupr (pc := 20) dX5_init_20 ?_
  refine rhF.ck (fun h10 => ?_)
  refine rhF.callIN (pc := 21) (embc := rhe2U) "RailHouses" [] dX5_init_21 (by decide +kernel) ne_X5_22 mi_X10_init (fun z => absurd (h10.symm.trans z) (by decide)) (c_X10_init _ _ _ _) (by decide) (by decide) rfl (Nat.le_of_ble_eq_true rfl) (fun r11 _ => ?_)
  refine rhF.ck (fun h12 => ?_)
  refine rhF.putr (pc := 24) dX5_init_24 fl_X5_23 h12 (fun q hq => by cases hq; exact Or.inr ⟨rfl, rfl, rfl⟩) (Or.inl ⟨_, rfl⟩) (fun _ => rfl) ?_
  refine rhF.aload_n (pc := 27) dX5_init_27 0 rfl ?_
  refine rhF.new (pc := 28) (ci := 2) dX5_init_28 nw_X5_27 ?_
  refine rhF.dupr (pc := 31) dX5_init_31 ?_
  refine rhF.bipush (pc := 32) (v := 6) dX5_init_32 (by decide) ?_
  refine rhF.iconst (pc := 34) (v := 4) dX5_init_34 (by decide) ?_
  refine rhF.callS (pc := 35) (embc := rhe0I _ _) [rhI _, rhI _] dX5_init_35 ml_X5_29 ms_X2_placesFor (c_X2_placesFor _ _ _ _ _) (by decide) (by decide) rfl (Nat.le_of_ble_eq_true rfl) (fun r16 _ => ?_)
  refine rhF.ck (fun h17 => ?_)
  refine rhF.callI (pc := 38) (embc := rhe2U) [rhI _] dX5_init_38 ml_X5_33 mi_X2_init (fun z => absurd (h17.symm.trans z) (by decide)) (c_X2_init _ _ _ _ _) (by decide) (by decide) rfl (Nat.le_of_ble_eq_true rfl) (fun r18 _ => ?_)
  refine rhF.ck (fun h19 => ?_)
  refine rhF.putr (pc := 41) dX5_init_41 fl_X5_34 h19 (fun q hq => by cases hq; exact Or.inr ⟨rfl, rfl, rfl⟩) (Or.inl ⟨_, rfl⟩) (fun _ => rfl) ?_
  refine rhF.aload_n (pc := 44) dX5_init_44 0 rfl ?_
  refine rhF.new (pc := 45) (ci := 7) dX5_init_45 nw_X5_38 ?_
  refine rhF.dupr (pc := 48) dX5_init_48 ?_
  refine rhF.ck (fun h23 => ?_)
  refine rhF.callIN (pc := 49) (embc := rhe2U) "RailHouses" [] dX5_init_49 (by decide +kernel) ne_X5_40 mi_X7_init (fun z => absurd (h23.symm.trans z) (by decide)) (c_X7_init _ _ _ _) (by decide) (by decide) rfl (Nat.le_of_ble_eq_true rfl) (fun r24 _ => ?_)
  refine rhF.ck (fun h25 => ?_)
  refine rhF.putr (pc := 52) dX5_init_52 fl_X5_41 h25 (fun q hq => by cases hq; exact Or.inr ⟨rfl, rfl, rfl⟩) (Or.inl ⟨_, rfl⟩) (fun _ => rfl) ?_
  exact rhF.vret (pc := 55) dX5_init_55 rfl rfl
theorem c_X5_init (E : rhE) (Γ : rhG) (M : rhM) (v0 : Nat) : ∀ a, f_X5_init Γ M v0 = some a → rhC E 6 yX5_init cX5_init 1 none [rhR v0] Γ M (rhe2U a) := rhF.met (by decide +kernel) (Nat.le_of_ble_eq_true rfl) (b_X5_init (Γ0 := Γ) Γ M v0)
def f_X5_pullsTo (Γ : rhG) (M : rhM) (v0 : Nat) (v1 : Int32) : Option (Int32) :=
  rhck (Γ.2.2.1 v0 = 6) <|
  rhck (Γ.2.2.1 (M.2.2 v0 1) = 1) <|
  (f_X0_pullsTo Γ M (M.2.2 v0 1) v1).bind fun r3 =>
  some r3
set_option maxHeartbeats 4000000 in
set_option maxRecDepth 100000 in
theorem b_X5_pullsTo {E : rhE} {Γ : rhG} {M : rhM} : ∀ (v0 : Nat) (v1 : Int32), rhF E 5 2 yX5_pullsTo cX5_pullsTo (some .int) Γ (rhe0I Γ M) (f_X5_pullsTo Γ M v0 v1) 0 [(0, rhR v0), (1, rhI v1)] [] Γ M := by
  intro v0 v1
  rw [f_X5_pullsTo]
  refine rhF.aload_n (pc := 0) dX5_pullsTo_0 0 rfl ?_
  refine rhF.ck (fun h1 => ?_)
  refine rhF.get (pc := 1) (rhR _) dX5_pullsTo_1 fl_X5_14 h1 rfl ?_
  refine rhF.iload_n (pc := 4) dX5_pullsTo_4 1 rfl ?_
  refine rhF.ck (fun h2 => ?_)
  refine rhF.callV (pc := 5) (ci := 0) (embc := rhe0I _ _) [rhI _] dX5_pullsTo_5 ml_X5_66 mv_X0_pullsTo ⟨_, rfl, rfl⟩ h2 (c_X0_pullsTo _ _ _ _ _) (by decide) (by decide) rfl (Nat.le_of_ble_eq_true rfl) (fun r3 _ => ?_)
  exact rhF.zret (pc := 8) dX5_pullsTo_8 rfl rfl rfl
theorem c_X5_pullsTo (E : rhE) (Γ : rhG) (M : rhM) (v0 : Nat) (v1 : Int32) : ∀ a, f_X5_pullsTo Γ M v0 v1 = some a → rhC E 5 yX5_pullsTo cX5_pullsTo 2 (some .int) [rhR v0, rhI v1] Γ M ((rhe0I Γ M) a) := rhF.met (by decide +kernel) (Nat.le_of_ble_eq_true rfl) (b_X5_pullsTo v0 v1)
def f_X5_seekAlone (Γ : rhG) (M : rhM) (v0 : Nat) (v1 : Int32) : Option (rhM) :=
  rhck (Γ.2.2.1 v0 = 6) <|
  let M2 := rhsi M v0 6 1
  let M3 := rhsi M2 v0 9 v1
  some M3
set_option maxHeartbeats 4000000 in
set_option maxRecDepth 100000 in
theorem b_X5_seekAlone {E : rhE} {Γ : rhG} : ∀ (M : rhM) (v0 : Nat) (v1 : Int32), rhF E 1 2 yX5_seekAlone cX5_seekAlone none Γ (rhe1U Γ) (f_X5_seekAlone Γ M v0 v1) 0 [(0, rhR v0), (1, rhI v1)] [] Γ M := by
  intro M v0 v1
  rw [f_X5_seekAlone]
  refine rhF.aload_n (pc := 0) dX5_seekAlone_0 0 rfl ?_
  refine rhF.iconst (pc := 1) (v := 1) dX5_seekAlone_1 (by decide) ?_
  refine rhF.ck (fun h1 => ?_)
  refine rhF.puti (pc := 2) dX5_seekAlone_2 fl_X5_49 h1 (fun q hq => by cases hq; exact Or.inl rfl) ⟨rfl, rfl⟩ (fun _ => rfl) ?_
  refine rhF.aload_n (pc := 5) dX5_seekAlone_5 0 rfl ?_
  refine rhF.iload_n (pc := 6) dX5_seekAlone_6 1 rfl ?_
  refine rhF.puti (pc := 7) dX5_seekAlone_7 fl_X5_63 h1 (fun q hq => by cases hq; exact Or.inl rfl) ⟨rfl, rfl⟩ (fun _ => rfl) ?_
  exact rhF.vret (pc := 10) dX5_seekAlone_10 rfl rfl
theorem c_X5_seekAlone (E : rhE) (Γ : rhG) (M : rhM) (v0 : Nat) (v1 : Int32) : ∀ a, f_X5_seekAlone Γ M v0 v1 = some a → rhC E 1 yX5_seekAlone cX5_seekAlone 2 none [rhR v0, rhI v1] Γ M ((rhe1U Γ) a) := rhF.met (by decide +kernel) (Nat.le_of_ble_eq_true rfl) (b_X5_seekAlone M v0 v1)
def f_X5_seekRow (Γ : rhG) (M : rhM) (v0 : Nat) (v1 : Int64) (v3 : Int32) : Option (rhM) :=
  rhck (Γ.2.2.1 v0 = 6) <|
  let M2 := rhsi M v0 6 0
  let M3 := rhsl M2 v0 7 v1
  (f_X7_ones Γ M3 v3).bind fun r4 =>
  let M5 := rhsl M3 v0 8 r4
  some M5
set_option maxHeartbeats 4000000 in
set_option maxRecDepth 100000 in
theorem b_X5_seekRow {E : rhE} {Γ : rhG} : ∀ (M : rhM) (v0 : Nat) (v1 : Int64) (v3 : Int32), rhF E 5 4 yX5_seekRow cX5_seekRow none Γ (rhe1U Γ) (f_X5_seekRow Γ M v0 v1 v3) 0 [(0, rhR v0), (1, rhJ v1), (3, rhI v3)] [] Γ M := by
  intro M v0 v1 v3
  rw [f_X5_seekRow]
  refine rhF.aload_n (pc := 0) dX5_seekRow_0 0 rfl ?_
  refine rhF.iconst (pc := 1) (v := 0) dX5_seekRow_1 (by decide) ?_
  refine rhF.ck (fun h1 => ?_)
  refine rhF.puti (pc := 2) dX5_seekRow_2 fl_X5_49 h1 (fun q hq => by cases hq; exact Or.inl rfl) ⟨rfl, rfl⟩ (fun _ => rfl) ?_
  refine rhF.aload_n (pc := 5) dX5_seekRow_5 0 rfl ?_
  refine rhF.lload_n (pc := 6) dX5_seekRow_6 1 rfl ?_
  refine rhF.putl (pc := 7) dX5_seekRow_7 fl_X5_52 h1 (fun q hq => by cases hq; exact Or.inl rfl) ⟨rfl, rfl⟩ (fun _ => rfl) ?_
  refine rhF.aload_n (pc := 10) dX5_seekRow_10 0 rfl ?_
  refine rhF.iload_n (pc := 11) dX5_seekRow_11 2 rfl ?_
  refine rhF.callS (pc := 12) (embc := rhe0J _ _) [rhI _] dX5_seekRow_12 ml_X5_56 ms_X7_ones (c_X7_ones _ _ _ _) (by decide) (by decide) rfl (Nat.le_of_ble_eq_true rfl) (fun r4 _ => ?_)
  refine rhF.putl (pc := 15) dX5_seekRow_15 fl_X5_60 h1 (fun q hq => by cases hq; exact Or.inl rfl) ⟨rfl, rfl⟩ (fun _ => rfl) ?_
  exact rhF.vret (pc := 18) dX5_seekRow_18 rfl rfl
theorem c_X5_seekRow (E : rhE) (Γ : rhG) (M : rhM) (v0 : Nat) (v1 : Int64) (v3 : Int32) : ∀ a, f_X5_seekRow Γ M v0 v1 v3 = some a → rhC E 5 yX5_seekRow cX5_seekRow 4 none [rhR v0, rhJ v1, rhI v3] Γ M ((rhe1U Γ) a) := rhF.met (by decide +kernel) (Nat.le_of_ble_eq_true rfl) (b_X5_seekRow M v0 v1 v3)
def f_X5_seekWorth (Γ : rhG) (M : rhM) (v0 : Nat) : Option (rhM) :=
  rhck (Γ.2.2.1 v0 = 6) <|
  let M2 := rhsi M v0 6 2
  some M2
set_option maxHeartbeats 4000000 in
set_option maxRecDepth 100000 in
theorem b_X5_seekWorth {E : rhE} {Γ : rhG} : ∀ (M : rhM) (v0 : Nat), rhF E 1 1 yX5_seekWorth cX5_seekWorth none Γ (rhe1U Γ) (f_X5_seekWorth Γ M v0) 0 [(0, rhR v0)] [] Γ M := by
  intro M v0
  rw [f_X5_seekWorth]
  refine rhF.aload_n (pc := 0) dX5_seekWorth_0 0 rfl ?_
  refine rhF.iconst (pc := 1) (v := 2) dX5_seekWorth_1 (by decide) ?_
  refine rhF.ck (fun h1 => ?_)
  refine rhF.puti (pc := 2) dX5_seekWorth_2 fl_X5_49 h1 (fun q hq => by cases hq; exact Or.inl rfl) ⟨rfl, rfl⟩ (fun _ => rfl) ?_
  exact rhF.vret (pc := 5) dX5_seekWorth_5 rfl rfl
theorem c_X5_seekWorth (E : rhE) (Γ : rhG) (M : rhM) (v0 : Nat) : ∀ a, f_X5_seekWorth Γ M v0 = some a → rhC E 1 yX5_seekWorth cX5_seekWorth 1 none [rhR v0] Γ M ((rhe1U Γ) a) := rhF.met (by decide +kernel) (Nat.le_of_ble_eq_true rfl) (b_X5_seekWorth M v0)
def f_X5_spread_30 (Γ : rhG) : Nat → rhM → Nat → Int32 → Int32 → Int32 → Option (Int32 × rhM)
  | 0, _, _, _, _, _ => none
  | n + 1, M, v0, v4, v5, v6 =>
    rhck (Γ.2.2.1 v0 = 6) <|
    rhck (Γ.2.2.1 (M.2.2 v0 1) = 1) <|
    if v6 < (M.1 (M.2.2 v0 1) 0) then
      (if v5 = 65535 then
        (some ((M.1 v0 10, M)))
      else
        (f_X0_pullsTo Γ M (M.2.2 v0 1) v5).bind fun r11 =>
        if r11 < v4 then
          ((f_X5_goOn Γ M v0 v5).bind fun r13 =>
          let x14 := r13.1
          if x14 = ((-1)) then
            (rhck (Γ.2.2.1 (r13.2.2.2 v0 1) = 1) <|
            (f_X0_behind Γ r13.2 (r13.2.2.2 v0 1) v5).bind fun r17 =>
            let x18 : Int32 := v6 + 1
            f_X5_spread_30 Γ n r13.2 v0 v4 r17 x18)
          else
            some ((x14, r13.2)))
        else
          some ((M.1 v0 10, M)))
    else
      some ((M.1 v0 10, M))
def f_X5_spread (Γ : rhG) (M : rhM) (v0 : Nat) (v1 : Nat) (v2 : Int64) (v4 : Int32) : Option (Int32 × rhM) :=
  rhck (Γ.2.2.1 v0 = 6) <|
  (f_X5_begin Γ M v0 v1 v2).bind fun r2 =>
  let x3 := r2.1
  if x3 = ((-1)) then
    (some ((x3, r2.2)))
  else
    (f_X5_isMet Γ r2.2 v0 x3 v2).bind fun r5 =>
    if r5.1 = 0 then
      (f_X5_spread_30 Γ rhFU r5.2 v0 v4 x3 0)
    else
      some ((x3, r5.2))
set_option maxHeartbeats 4000000 in
set_option maxRecDepth 100000 in
theorem b_X5_spread_30 {E : rhE} {Γ : rhG} : ∀ (n : Nat) (M : rhM) (v0 : Nat) (v4 : Int32) (v5 : Int32) (v6 : Int32), rhF E 10 8 yX5_spread cX5_spread (some .int) Γ (rhe1I Γ) (f_X5_spread_30 Γ n M v0 v4 v5 v6) 30 [(0, rhR v0), (4, rhI v4), (5, rhI v5), (6, rhI v6)] [] Γ M := by
  intro n
  induction n with
  | zero => intro M v0 v4 v5 v6; rw [f_X5_spread_30]; exact rhF.nope
  | succ n ih =>
    intro M v0 v4 v5 v6
    rw [f_X5_spread_30]
    refine rhF.iload (pc := 30) dX5_spread_30 3 rfl ?_
    refine rhF.aload_n (pc := 32) dX5_spread_32 0 rfl ?_
    refine rhF.ck (fun h7 => ?_)
    refine rhF.get (pc := 33) (rhR _) dX5_spread_33 fl_X5_14 h7 rfl ?_
    refine rhF.ck (fun h8 => ?_)
    refine rhF.get (pc := 36) (rhI _) dX5_spread_36 fl_X5_45 h8 rfl ?_
    refine rhF.icmp_ge (pc := 39) 97 dX5_spread_39 (by decide) (fun h9 => ?_) (fun h9 => ?_)
    · refine rhF.iload (pc := 42) dX5_spread_42 2 rfl ?_
      refine rhF.ldc (pc := 44) dX5_spread_44 k_X5_122 ?_
      refine rhF.icmp_eq (pc := 46) 97 dX5_spread_46 (by decide) (fun h10 => ?_) (fun h10 => ?_)
      · refine rhF.aload_n (pc := 97) dX5_spread_97 0 rfl ?_
        refine rhF.get (pc := 98) (rhI _) dX5_spread_98 fl_X5_81 h7 rfl ?_
        exact rhF.zret (pc := 101) dX5_spread_101 rfl rfl rfl
      · refine rhF.aload_n (pc := 49) dX5_spread_49 0 rfl ?_
        refine rhF.get (pc := 50) (rhR _) dX5_spread_50 fl_X5_14 h7 rfl ?_
        refine rhF.iload (pc := 53) dX5_spread_53 2 rfl ?_
        refine rhF.callV (pc := 55) (ci := 0) (embc := rhe0I _ _) [rhI _] dX5_spread_55 ml_X5_66 mv_X0_pullsTo ⟨_, rfl, rfl⟩ h8 (c_X0_pullsTo _ _ _ _ _) (by decide) (by decide) rfl (Nat.le_of_ble_eq_true rfl) (fun r11 _ => ?_)
        refine rhF.iload (pc := 58) dX5_spread_58 1 rfl ?_
        refine rhF.icmp_ge (pc := 60) 97 dX5_spread_60 (by decide) (fun h12 => ?_) (fun h12 => ?_)
        · refine rhF.aload_n (pc := 63) dX5_spread_63 0 rfl ?_
          refine rhF.iload (pc := 64) dX5_spread_64 2 rfl ?_
          refine rhF.callV (pc := 66) (ci := 5) (embc := rhe1I _) [rhI _] dX5_spread_66 ml_X5_123 mv_X5_goOn ⟨_, rfl, rfl⟩ h7 (c_X5_goOn _ _ _ _ _) (by decide) (by decide) rfl (Nat.le_of_ble_eq_true rfl) (fun r13 _ => ?_)
          refine rhF.istore (pc := 69) (L' := [(7, rhI _), (0, rhR _), (4, rhI _), (5, rhI _), (6, rhI _)]) dX5_spread_69 (by decide) rfl ?_
          refine rhF.iload (pc := 71) dX5_spread_71 0 rfl ?_
          refine rhF.iconst (pc := 73) (v := (-1)) dX5_spread_73 (by decide) ?_
          refine rhF.icmp_eq (pc := 74) 80 dX5_spread_74 (by decide) (fun h15 => ?_) (fun h15 => ?_)
          · refine rhF.aload_n (pc := 80) dX5_spread_80 1 rfl ?_
            refine rhF.get (pc := 81) (rhR _) dX5_spread_81 fl_X5_14 h7 rfl ?_
            refine rhF.iload (pc := 84) dX5_spread_84 3 rfl ?_
            refine rhF.ck (fun h16 => ?_)
            refine rhF.callV (pc := 86) (ci := 0) (embc := rhe0I _ _) [rhI _] dX5_spread_86 ml_X5_126 mv_X0_behind ⟨_, rfl, rfl⟩ h16 (c_X0_behind _ _ _ _ _) (by decide) (by decide) rfl (Nat.le_of_ble_eq_true rfl) (fun r17 _ => ?_)
            refine rhF.istore (pc := 89) (L' := [(5, rhI _), (7, rhI _), (0, rhR _), (4, rhI _), (6, rhI _)]) dX5_spread_89 (by decide) rfl ?_
            refine rhF.iinc (pc := 91) (L' := [(6, rhI _), (5, rhI _), (7, rhI _), (0, rhR _), (4, rhI _)]) dX5_spread_91 4 rfl rfl (by decide) rfl ?_
            refine rhF.goto (pc := 94) 30 dX5_spread_94 (by decide) ?_
            refine rhF.sub [3, 4, 1, 0] rfl ?_
            exact ih _ _ _ _ _
          · refine rhF.iload (pc := 77) dX5_spread_77 0 rfl ?_
            exact rhF.zret (pc := 79) dX5_spread_79 rfl rfl rfl
        · refine rhF.aload_n (pc := 97) dX5_spread_97 0 rfl ?_
          refine rhF.get (pc := 98) (rhI _) dX5_spread_98 fl_X5_81 h7 rfl ?_
          exact rhF.zret (pc := 101) dX5_spread_101 rfl rfl rfl
    · refine rhF.aload_n (pc := 97) dX5_spread_97 0 rfl ?_
      refine rhF.get (pc := 98) (rhI _) dX5_spread_98 fl_X5_81 h7 rfl ?_
      exact rhF.zret (pc := 101) dX5_spread_101 rfl rfl rfl
set_option maxHeartbeats 4000000 in
set_option maxRecDepth 100000 in
theorem b_X5_spread {E : rhE} {Γ : rhG} : ∀ (M : rhM) (v0 : Nat) (v1 : Nat) (v2 : Int64) (v4 : Int32), rhF E 10 8 yX5_spread cX5_spread (some .int) Γ (rhe1I Γ) (f_X5_spread Γ M v0 v1 v2 v4) 0 [(0, rhR v0), (1, rhR v1), (2, rhJ v2), (4, rhI v4)] [] Γ M := by
  intro M v0 v1 v2 v4
  rw [f_X5_spread]
  refine rhF.aload_n (pc := 0) dX5_spread_0 0 rfl ?_
  refine rhF.aload_n (pc := 1) dX5_spread_1 1 rfl ?_
  refine rhF.lload_n (pc := 2) dX5_spread_2 2 rfl ?_
  refine rhF.ck (fun h1 => ?_)
  refine rhF.callV (pc := 3) (ci := 5) (embc := rhe1I _) [rhR _, rhJ _] dX5_spread_3 ml_X5_115 mv_X5_begin ⟨_, rfl, rfl⟩ h1 (c_X5_begin _ _ _ _ _ _) (by decide) (by decide) rfl (Nat.le_of_ble_eq_true rfl) (fun r2 _ => ?_)
  refine rhF.istore (pc := 6) (L' := [(5, rhI _), (0, rhR _), (1, rhR _), (2, rhJ _), (4, rhI _)]) dX5_spread_6 (by decide) rfl ?_
  refine rhF.iload (pc := 8) dX5_spread_8 0 rfl ?_
  refine rhF.iconst (pc := 10) (v := (-1)) dX5_spread_10 (by decide) ?_
  refine rhF.icmp_eq (pc := 11) 24 dX5_spread_11 (by decide) (fun h4 => ?_) (fun h4 => ?_)
  · refine rhF.iload (pc := 24) dX5_spread_24 0 rfl ?_
    exact rhF.zret (pc := 26) dX5_spread_26 rfl rfl rfl
  · refine rhF.aload_n (pc := 14) dX5_spread_14 1 rfl ?_
    refine rhF.iload (pc := 15) dX5_spread_15 0 rfl ?_
    refine rhF.lload_n (pc := 17) dX5_spread_17 3 rfl ?_
    refine rhF.callV (pc := 18) (ci := 5) (embc := rhe1I _) [rhI _, rhJ _] dX5_spread_18 ml_X5_118 mv_X5_isMet ⟨_, rfl, rfl⟩ h1 (c_X5_isMet _ _ _ _ _ _) (by decide) (by decide) rfl (Nat.le_of_ble_eq_true rfl) (fun r5 _ => ?_)
    refine rhF.if_eq (pc := 21) 27 dX5_spread_21 (by decide) (fun h6 => ?_) (fun h6 => ?_)
    · refine rhF.iconst (pc := 27) (v := 0) dX5_spread_27 (by decide) ?_
      refine rhF.istore (pc := 28) (L' := [(6, rhI _), (5, rhI _), (0, rhR _), (1, rhR _), (2, rhJ _), (4, rhI _)]) dX5_spread_28 (by decide) rfl ?_
      refine rhF.sub [2, 5, 1, 0] rfl ?_
      exact (b_X5_spread_30 rhFU) _ _ _ _ _
    · refine rhF.iload (pc := 24) dX5_spread_24 0 rfl ?_
      exact rhF.zret (pc := 26) dX5_spread_26 rfl rfl rfl
theorem c_X5_spread (E : rhE) (Γ : rhG) (M : rhM) (v0 : Nat) (v1 : Nat) (v2 : Int64) (v4 : Int32) : ∀ a, f_X5_spread Γ M v0 v1 v2 v4 = some a → rhC E 10 yX5_spread cX5_spread 8 (some .int) [rhR v0, rhR v1, rhJ v2, rhI v4] Γ M ((rhe1I Γ) a) := rhF.met (by decide +kernel) (Nat.le_of_ble_eq_true rfl) (b_X5_spread M v0 v1 v2 v4)
def f_X5_weighOn_195 (k53 : rhM → Nat → Int32 → Int32 → Int32 → Option (rhM)) (Γ : rhG) (M : rhM) (v0 : Nat) (v1 : Int32) (v2 : Int32) (v3 : Int32) : Option (rhM) :=
  let x29 : Int32 := v3 + 1
  k53 M v0 v1 v2 x29
def f_X5_weighOn_53 (Γ : rhG) : Nat → rhM → Nat → Int32 → Int32 → Int32 → Option (rhM)
  | 0, _, _, _, _, _ => none
  | n + 1, M, v0, v1, v2, v3 =>
    rhck (Γ.2.2.1 v0 = 6) <|
    rhck (Γ.2.2.1 (M.2.2 v0 4) = 8) <|
    if v3 < (M.1 (M.2.2 v0 4) 6) then
      (rhck (Γ.2.2.1 (M.2.2 v0 5) = 10) <|
      rhck (Γ.2.2.1 (M.2.2 (M.2.2 v0 4) 8) = 15) <|
      rhck (0 ≤ (v3).toInt ∧ (v3).toInt < (Γ.2.2.2 (M.2.2 (M.2.2 v0 4) 8) : Nat)) <|
      rhck (Γ.2.2.1 (M.2.2 (M.2.2 v0 5) 8) = 15) <|
      rhck (0 ≤ (M.1 (M.2.2 (M.2.2 v0 4) 8) v3.toNatClampNeg).toInt ∧ (M.1 (M.2.2 (M.2.2 v0 4) 8) v3.toNatClampNeg).toInt < (Γ.2.2.2 (M.2.2 (M.2.2 v0 5) 8) : Nat)) <|
      let x20 := v2 + (M.1 (M.2.2 (M.2.2 v0 5) 8) (M.1 (M.2.2 (M.2.2 v0 4) 8) v3.toNatClampNeg).toNatClampNeg)
      rhck (Γ.2.2.1 (M.2.2 (M.2.2 v0 4) 11) = 15) <|
      rhck (0 ≤ (v3).toInt ∧ (v3).toInt < (Γ.2.2.2 (M.2.2 (M.2.2 v0 4) 11) : Nat)) <|
      let x23 := M.1 (M.2.2 (M.2.2 v0 4) 11) v3.toNatClampNeg
      rhck (Γ.2.2.1 (M.2.2 v0 1) = 1) <|
      (f_X0_isNew Γ M (M.2.2 v0 1) x23).bind fun r25 =>
      if r25 = 0 then
        ((f_X0_isBetter Γ M (M.2.2 v0 1) x23 v1 x20).bind fun r27 =>
        if r27 = 0 then
          (f_X5_weighOn_195 (f_X5_weighOn_53 Γ n) Γ M v0 v1 v2 v3)
        else
          rhck (Γ.2.2.1 (M.2.2 (M.2.2 v0 4) 7) = 15) <|
          rhck (0 ≤ (v3).toInt ∧ (v3).toInt < (Γ.2.2.2 (M.2.2 (M.2.2 v0 4) 7) : Nat)) <|
          (f_X0_lead Γ M (M.2.2 v0 1) x23 v1 (M.1 (M.2.2 (M.2.2 v0 4) 7) v3.toNatClampNeg)).bind fun r32 =>
          rhck (Γ.2.2.1 (r32.2.2 v0 1) = 1) <|
          (f_X0_drop Γ r32 (r32.2.2 v0 1) x23).bind fun r34 =>
          rhck (Γ.2.2.1 (r34.2.2 v0 1) = 1) <|
          (f_X0_put Γ r34 (r34.2.2 v0 1) x23 x20).bind fun r36 =>
          f_X5_weighOn_195 (f_X5_weighOn_53 Γ n) Γ r36 v0 v1 v2 v3)
      else
        rhck (Γ.2.2.1 (M.2.2 (M.2.2 v0 4) 7) = 15) <|
        rhck (0 ≤ (v3).toInt ∧ (v3).toInt < (Γ.2.2.2 (M.2.2 (M.2.2 v0 4) 7) : Nat)) <|
        (f_X0_lead Γ M (M.2.2 v0 1) x23 v1 (M.1 (M.2.2 (M.2.2 v0 4) 7) v3.toNatClampNeg)).bind fun r39 =>
        rhck (Γ.2.2.1 (r39.2.2 v0 1) = 1) <|
        (f_X0_put Γ r39 (r39.2.2 v0 1) x23 x20).bind fun r41 =>
        f_X5_weighOn_195 (f_X5_weighOn_53 Γ n) Γ r41 v0 v1 v2 v3)
    else
      some M
def f_X5_weighOn (Γ : rhG) (M : rhM) (v0 : Nat) (v1 : Int32) : Option (rhM) :=
  rhck (Γ.2.2.1 v0 = 6) <|
  rhck (Γ.2.2.1 (M.2.2 v0 2) = 11) <|
  (f_X10_wordOf Γ M (M.2.2 v0 2) v1).bind fun r3 =>
  rhck (Γ.2.2.1 (M.2.2 v0 4) = 8) <|
  (f_X7_look Γ M (M.2.2 v0 4) (M.2.2 v0 5) r3).bind fun r5 =>
  rhck (Γ.2.2.1 (r5.2.2 v0 4) = 8) <|
  (f_X7_listPulls Γ r5 (r5.2.2 v0 4) (r5.2.2 v0 3)).bind fun r7 =>
  rhck (Γ.2.2.1 (r7.2.2 v0 2) = 11) <|
  (f_X10_follow Γ r7 (r7.2.2 v0 2) v1 (r7.2.2 v0 4)).bind fun r9 =>
  rhck (Γ.2.2.1 (r9.2.2 v0 1) = 1) <|
  (f_X0_weightTo Γ r9 (r9.2.2 v0 1) v1).bind fun r11 =>
  f_X5_weighOn_53 Γ rhFU r9 v0 v1 r11 0
set_option maxHeartbeats 4000000 in
set_option maxRecDepth 100000 in
theorem b_X5_weighOn_195 {E : rhE} {Γ : rhG} {k53 : rhM → Nat → Int32 → Int32 → Int32 → Option (rhM)} (hk53 : ∀ (M : rhM) (v0 : Nat) (v1 : Int32) (v2 : Int32) (v3 : Int32), rhF E 9 6 yX5_weighOn cX5_weighOn none Γ (rhe1U Γ) (k53 M v0 v1 v2 v3) 53 [(0, rhR v0), (1, rhI v1), (2, rhI v2), (3, rhI v3)] [] Γ M) : ∀ (M : rhM) (v0 : Nat) (v1 : Int32) (v2 : Int32) (v3 : Int32), rhF E 9 6 yX5_weighOn cX5_weighOn none Γ (rhe1U Γ) (f_X5_weighOn_195 k53 Γ M v0 v1 v2 v3) 195 [(0, rhR v0), (1, rhI v1), (2, rhI v2), (3, rhI v3)] [] Γ M := by
  intro M v0 v1 v2 v3
  rw [f_X5_weighOn_195]
  refine rhF.iinc (pc := 195) (L' := [(3, rhI _), (0, rhR _), (1, rhI _), (2, rhI _)]) dX5_weighOn_195 3 rfl rfl (by decide) rfl ?_
  refine rhF.goto (pc := 198) 53 dX5_weighOn_198 (by decide) ?_
  refine rhF.sub [1, 2, 3, 0] rfl ?_
  exact hk53 _ _ _ _ _
set_option maxHeartbeats 4000000 in
set_option maxRecDepth 100000 in
theorem b_X5_weighOn_53 {E : rhE} {Γ : rhG} : ∀ (n : Nat) (M : rhM) (v0 : Nat) (v1 : Int32) (v2 : Int32) (v3 : Int32), rhF E 9 6 yX5_weighOn cX5_weighOn none Γ (rhe1U Γ) (f_X5_weighOn_53 Γ n M v0 v1 v2 v3) 53 [(0, rhR v0), (1, rhI v1), (2, rhI v2), (3, rhI v3)] [] Γ M := by
  intro n
  induction n with
  | zero => intro M v0 v1 v2 v3; rw [f_X5_weighOn_53]; exact rhF.nope
  | succ n ih =>
    intro M v0 v1 v2 v3
    rw [f_X5_weighOn_53]
    refine rhF.iload_n (pc := 53) dX5_weighOn_53 3 rfl ?_
    refine rhF.aload_n (pc := 54) dX5_weighOn_54 0 rfl ?_
    refine rhF.ck (fun h12 => ?_)
    refine rhF.get (pc := 55) (rhR _) dX5_weighOn_55 fl_X5_41 h12 rfl ?_
    refine rhF.ck (fun h13 => ?_)
    refine rhF.get (pc := 58) (rhI _) dX5_weighOn_58 fl_X5_144 h13 rfl ?_
    refine rhF.icmp_ge (pc := 61) 201 dX5_weighOn_61 (by decide) (fun h14 => ?_) (fun h14 => ?_)
    · refine rhF.iload_n (pc := 64) dX5_weighOn_64 2 rfl ?_
      refine rhF.aload_n (pc := 65) dX5_weighOn_65 0 rfl ?_
      refine rhF.get (pc := 66) (rhR _) dX5_weighOn_66 fl_X5_77 h12 rfl ?_
      refine rhF.ck (fun h15 => ?_)
      refine rhF.get (pc := 69) (rhR _) dX5_weighOn_69 fl_X5_196 h15 rfl ?_
      refine rhF.aload_n (pc := 72) dX5_weighOn_72 0 rfl ?_
      refine rhF.get (pc := 73) (rhR _) dX5_weighOn_73 fl_X5_41 h12 rfl ?_
      refine rhF.get (pc := 76) (rhR _) dX5_weighOn_76 fl_X5_199 h13 rfl ?_
      refine rhF.iload_n (pc := 79) dX5_weighOn_79 3 rfl ?_
      refine rhF.ck (fun h16 => ?_)
      refine rhF.ck (fun h17 => ?_)
      refine rhF.iald (pc := 80) dX5_weighOn_80 h16 h17 ?_
      refine rhF.ck (fun h18 => ?_)
      refine rhF.ck (fun h19 => ?_)
      refine rhF.iald (pc := 81) dX5_weighOn_81 h18 h19 ?_
      refine rhF.iadd (pc := 82) dX5_weighOn_82 ?_
      refine rhF.istore (pc := 83) (L' := [(4, rhI _), (0, rhR _), (1, rhI _), (2, rhI _), (3, rhI _)]) dX5_weighOn_83 (by decide) rfl ?_
      refine rhF.aload_n (pc := 85) dX5_weighOn_85 1 rfl ?_
      refine rhF.get (pc := 86) (rhR _) dX5_weighOn_86 fl_X5_41 h12 rfl ?_
      refine rhF.get (pc := 89) (rhR _) dX5_weighOn_89 fl_X5_147 h13 rfl ?_
      refine rhF.iload_n (pc := 92) dX5_weighOn_92 4 rfl ?_
      refine rhF.ck (fun h21 => ?_)
      refine rhF.ck (fun h22 => ?_)
      refine rhF.iald (pc := 93) dX5_weighOn_93 h21 h22 ?_
      refine rhF.istore (pc := 94) (L' := [(5, rhI _), (4, rhI _), (0, rhR _), (1, rhI _), (2, rhI _), (3, rhI _)]) dX5_weighOn_94 (by decide) rfl ?_
      refine rhF.aload_n (pc := 96) dX5_weighOn_96 2 rfl ?_
      refine rhF.get (pc := 97) (rhR _) dX5_weighOn_97 fl_X5_14 h12 rfl ?_
      refine rhF.iload (pc := 100) dX5_weighOn_100 0 rfl ?_
      refine rhF.ck (fun h24 => ?_)
      refine rhF.callV (pc := 102) (ci := 0) (embc := rhe0I _ _) [rhI _] dX5_weighOn_102 ml_X5_103 mv_X0_isNew ⟨_, rfl, rfl⟩ h24 (c_X0_isNew _ _ _ _ _) (by decide) (by decide) rfl (Nat.le_of_ble_eq_true rfl) (fun r25 _ => ?_)
      refine rhF.if_eq (pc := 105) 141 dX5_weighOn_105 (by decide) (fun h26 => ?_) (fun h26 => ?_)
      · refine rhF.aload_n (pc := 141) dX5_weighOn_141 2 rfl ?_
        refine rhF.get (pc := 142) (rhR _) dX5_weighOn_142 fl_X5_14 h12 rfl ?_
        refine rhF.iload (pc := 145) dX5_weighOn_145 0 rfl ?_
        refine rhF.iload_n (pc := 147) dX5_weighOn_147 3 rfl ?_
        refine rhF.iload (pc := 148) dX5_weighOn_148 1 rfl ?_
        refine rhF.callV (pc := 150) (ci := 0) (embc := rhe0I _ _) [rhI _, rhI _, rhI _] dX5_weighOn_150 ml_X5_202 mv_X0_isBetter ⟨_, rfl, rfl⟩ h24 (c_X0_isBetter _ _ _ _ _ _ _) (by decide) (by decide) rfl (Nat.le_of_ble_eq_true rfl) (fun r27 _ => ?_)
        refine rhF.if_eq (pc := 153) 195 dX5_weighOn_153 (by decide) (fun h28 => ?_) (fun h28 => ?_)
        · refine rhF.sub [2, 3, 4, 5] rfl ?_
          exact (b_X5_weighOn_195 ih) _ _ _ _ _
        · refine rhF.aload_n (pc := 156) dX5_weighOn_156 2 rfl ?_
          refine rhF.get (pc := 157) (rhR _) dX5_weighOn_157 fl_X5_14 h12 rfl ?_
          refine rhF.iload (pc := 160) dX5_weighOn_160 0 rfl ?_
          refine rhF.iload_n (pc := 162) dX5_weighOn_162 3 rfl ?_
          refine rhF.aload_n (pc := 163) dX5_weighOn_163 2 rfl ?_
          refine rhF.get (pc := 164) (rhR _) dX5_weighOn_164 fl_X5_41 h12 rfl ?_
          refine rhF.get (pc := 167) (rhR _) dX5_weighOn_167 fl_X5_151 h13 rfl ?_
          refine rhF.iload_n (pc := 170) dX5_weighOn_170 5 rfl ?_
          refine rhF.ck (fun h30 => ?_)
          refine rhF.ck (fun h31 => ?_)
          refine rhF.iald (pc := 171) dX5_weighOn_171 h30 h31 ?_
          refine rhF.callV (pc := 172) (ci := 0) (embc := rhe1U _) [rhI _, rhI _, rhI _] dX5_weighOn_172 ml_X5_107 mv_X0_lead ⟨_, rfl, rfl⟩ h24 (c_X0_lead _ _ _ _ _ _ _) (by decide) (by decide) rfl (Nat.le_of_ble_eq_true rfl) (fun r32 _ => ?_)
          refine rhF.aload_n (pc := 175) dX5_weighOn_175 2 rfl ?_
          refine rhF.get (pc := 176) (rhR _) dX5_weighOn_176 fl_X5_14 h12 rfl ?_
          refine rhF.iload (pc := 179) dX5_weighOn_179 0 rfl ?_
          refine rhF.ck (fun h33 => ?_)
          refine rhF.callV (pc := 181) (ci := 0) (embc := rhe1U _) [rhI _] dX5_weighOn_181 ml_X5_187 mv_X0_drop ⟨_, rfl, rfl⟩ h33 (c_X0_drop _ _ _ _ _) (by decide) (by decide) rfl (Nat.le_of_ble_eq_true rfl) (fun r34 _ => ?_)
          refine rhF.aload_n (pc := 184) dX5_weighOn_184 2 rfl ?_
          refine rhF.get (pc := 185) (rhR _) dX5_weighOn_185 fl_X5_14 h12 rfl ?_
          refine rhF.iload (pc := 188) dX5_weighOn_188 0 rfl ?_
          refine rhF.iload (pc := 190) dX5_weighOn_190 1 rfl ?_
          refine rhF.ck (fun h35 => ?_)
          refine rhF.callV (pc := 192) (ci := 0) (embc := rhe1U _) [rhI _, rhI _] dX5_weighOn_192 ml_X5_111 mv_X0_put ⟨_, rfl, rfl⟩ h35 (c_X0_put _ _ _ _ _ _) (by decide) (by decide) rfl (Nat.le_of_ble_eq_true rfl) (fun r36 _ => ?_)
          refine rhF.sub [2, 3, 4, 5] rfl ?_
          exact (b_X5_weighOn_195 ih) _ _ _ _ _
      · refine rhF.aload_n (pc := 108) dX5_weighOn_108 2 rfl ?_
        refine rhF.get (pc := 109) (rhR _) dX5_weighOn_109 fl_X5_14 h12 rfl ?_
        refine rhF.iload (pc := 112) dX5_weighOn_112 0 rfl ?_
        refine rhF.iload_n (pc := 114) dX5_weighOn_114 3 rfl ?_
        refine rhF.aload_n (pc := 115) dX5_weighOn_115 2 rfl ?_
        refine rhF.get (pc := 116) (rhR _) dX5_weighOn_116 fl_X5_41 h12 rfl ?_
        refine rhF.get (pc := 119) (rhR _) dX5_weighOn_119 fl_X5_151 h13 rfl ?_
        refine rhF.iload_n (pc := 122) dX5_weighOn_122 5 rfl ?_
        refine rhF.ck (fun h37 => ?_)
        refine rhF.ck (fun h38 => ?_)
        refine rhF.iald (pc := 123) dX5_weighOn_123 h37 h38 ?_
        refine rhF.callV (pc := 124) (ci := 0) (embc := rhe1U _) [rhI _, rhI _, rhI _] dX5_weighOn_124 ml_X5_107 mv_X0_lead ⟨_, rfl, rfl⟩ h24 (c_X0_lead _ _ _ _ _ _ _) (by decide) (by decide) rfl (Nat.le_of_ble_eq_true rfl) (fun r39 _ => ?_)
        refine rhF.aload_n (pc := 127) dX5_weighOn_127 2 rfl ?_
        refine rhF.get (pc := 128) (rhR _) dX5_weighOn_128 fl_X5_14 h12 rfl ?_
        refine rhF.iload (pc := 131) dX5_weighOn_131 0 rfl ?_
        refine rhF.iload (pc := 133) dX5_weighOn_133 1 rfl ?_
        refine rhF.ck (fun h40 => ?_)
        refine rhF.callV (pc := 135) (ci := 0) (embc := rhe1U _) [rhI _, rhI _] dX5_weighOn_135 ml_X5_111 mv_X0_put ⟨_, rfl, rfl⟩ h40 (c_X0_put _ _ _ _ _ _) (by decide) (by decide) rfl (Nat.le_of_ble_eq_true rfl) (fun r41 _ => ?_)
        refine rhF.goto (pc := 138) 195 dX5_weighOn_138 (by decide) ?_
        refine rhF.sub [2, 3, 4, 5] rfl ?_
        exact (b_X5_weighOn_195 ih) _ _ _ _ _
    · exact rhF.vret (pc := 201) dX5_weighOn_201 rfl rfl
set_option maxHeartbeats 4000000 in
set_option maxRecDepth 100000 in
theorem b_X5_weighOn {E : rhE} {Γ : rhG} : ∀ (M : rhM) (v0 : Nat) (v1 : Int32), rhF E 9 6 yX5_weighOn cX5_weighOn none Γ (rhe1U Γ) (f_X5_weighOn Γ M v0 v1) 0 [(0, rhR v0), (1, rhI v1)] [] Γ M := by
  intro M v0 v1
  rw [f_X5_weighOn]
  refine rhF.aload_n (pc := 0) dX5_weighOn_0 0 rfl ?_
  refine rhF.ck (fun h1 => ?_)
  refine rhF.get (pc := 1) (rhR _) dX5_weighOn_1 fl_X5_41 h1 rfl ?_
  refine rhF.aload_n (pc := 4) dX5_weighOn_4 0 rfl ?_
  refine rhF.get (pc := 5) (rhR _) dX5_weighOn_5 fl_X5_77 h1 rfl ?_
  refine rhF.aload_n (pc := 8) dX5_weighOn_8 0 rfl ?_
  refine rhF.get (pc := 9) (rhR _) dX5_weighOn_9 fl_X5_23 h1 rfl ?_
  refine rhF.iload_n (pc := 12) dX5_weighOn_12 1 rfl ?_
  refine rhF.ck (fun h2 => ?_)
  refine rhF.callV (pc := 13) (ci := 10) (embc := rhe0J _ _) [rhI _] dX5_weighOn_13 ml_X5_129 mv_X10_wordOf ⟨_, rfl, rfl⟩ h2 (c_X10_wordOf _ _ _ _ _) (by decide) (by decide) rfl (Nat.le_of_ble_eq_true rfl) (fun r3 _ => ?_)
  refine rhF.ck (fun h4 => ?_)
  refine rhF.callV (pc := 16) (ci := 7) (embc := rhe1U _) [rhR _, rhJ _] dX5_weighOn_16 ml_X5_132 mv_X7_look ⟨_, rfl, rfl⟩ h4 (c_X7_look _ _ _ _ _ _) (by decide) (by decide) rfl (Nat.le_of_ble_eq_true rfl) (fun r5 _ => ?_)
  refine rhF.aload_n (pc := 19) dX5_weighOn_19 0 rfl ?_
  refine rhF.get (pc := 20) (rhR _) dX5_weighOn_20 fl_X5_41 h1 rfl ?_
  refine rhF.aload_n (pc := 23) dX5_weighOn_23 0 rfl ?_
  refine rhF.get (pc := 24) (rhR _) dX5_weighOn_24 fl_X5_34 h1 rfl ?_
  refine rhF.ck (fun h6 => ?_)
  refine rhF.callV (pc := 27) (ci := 7) (embc := rhe1U _) [rhR _] dX5_weighOn_27 ml_X5_136 mv_X7_listPulls ⟨_, rfl, rfl⟩ h6 (c_X7_listPulls _ _ _ _ _) (by decide) (by decide) rfl (Nat.le_of_ble_eq_true rfl) (fun r7 _ => ?_)
  refine rhF.aload_n (pc := 30) dX5_weighOn_30 0 rfl ?_
  refine rhF.get (pc := 31) (rhR _) dX5_weighOn_31 fl_X5_23 h1 rfl ?_
  refine rhF.iload_n (pc := 34) dX5_weighOn_34 1 rfl ?_
  refine rhF.aload_n (pc := 35) dX5_weighOn_35 0 rfl ?_
  refine rhF.get (pc := 36) (rhR _) dX5_weighOn_36 fl_X5_41 h1 rfl ?_
  refine rhF.ck (fun h8 => ?_)
  refine rhF.callV (pc := 39) (ci := 10) (embc := rhe1U _) [rhI _, rhR _] dX5_weighOn_39 ml_X5_140 mv_X10_follow ⟨_, rfl, rfl⟩ h8 (c_X10_follow _ _ _ _ _ _) (by decide) (by decide) rfl (Nat.le_of_ble_eq_true rfl) (fun r9 _ => ?_)
  refine rhF.aload_n (pc := 42) dX5_weighOn_42 0 rfl ?_
  refine rhF.get (pc := 43) (rhR _) dX5_weighOn_43 fl_X5_14 h1 rfl ?_
  refine rhF.iload_n (pc := 46) dX5_weighOn_46 1 rfl ?_
  refine rhF.ck (fun h10 => ?_)
  refine rhF.callV (pc := 47) (ci := 0) (embc := rhe0I _ _) [rhI _] dX5_weighOn_47 ml_X5_70 mv_X0_weightTo ⟨_, rfl, rfl⟩ h10 (c_X0_weightTo _ _ _ _ _) (by decide) (by decide) rfl (Nat.le_of_ble_eq_true rfl) (fun r11 _ => ?_)
  refine rhF.istore_n (pc := 50) (L' := [(2, rhI _), (0, rhR _), (1, rhI _)]) dX5_weighOn_50 (by decide) rfl ?_
  refine rhF.iconst (pc := 51) (v := 0) dX5_weighOn_51 (by decide) ?_
  refine rhF.istore_n (pc := 52) (L' := [(3, rhI _), (2, rhI _), (0, rhR _), (1, rhI _)]) dX5_weighOn_52 (by decide) rfl ?_
  refine rhF.sub [2, 3, 1, 0] rfl ?_
  exact (b_X5_weighOn_53 rhFU) _ _ _ _ _
theorem c_X5_weighOn (E : rhE) (Γ : rhG) (M : rhM) (v0 : Nat) (v1 : Int32) : ∀ a, f_X5_weighOn Γ M v0 v1 = some a → rhC E 9 yX5_weighOn cX5_weighOn 6 none [rhR v0, rhI v1] Γ M ((rhe1U Γ) a) := rhF.met (by decide +kernel) (Nat.le_of_ble_eq_true rfl) (b_X5_weighOn M v0 v1)
