def f_X12_clearBank_127 (Γ : rhG) : Nat → rhM → Nat → Int32 → Option (rhM)
  | 0, _, _, _ => none
  | n + 1, M, v0, v1 =>
    rhck (Γ.2.2.1 v0 = 13) <|
    if v1 < ((64 * (M.1 v0 35)) + 64) then
      (rhck (Γ.2.2.1 (M.2.2 v0 22) = 15) <|
      rhck (0 ≤ (v1).toInt ∧ (v1).toInt < (Γ.2.2.2 (M.2.2 v0 22) : Nat)) <|
      let M38 := rhsi M (M.2.2 v0 22) (v1 : Int32).toNatClampNeg 0
      rhck (Γ.2.2.1 (M.2.2 v0 26) = 17) <|
      rhck (0 ≤ (v1).toInt ∧ (v1).toInt < (Γ.2.2.2 (M.2.2 v0 26) : Nat)) <|
      let M41 := rhsi M38 (M.2.2 v0 26) (v1 : Int32).toNatClampNeg (vp_nar .boolean 0)
      let x42 : Int32 := v1 + 1
      f_X12_clearBank_127 Γ n M41 v0 x42)
    else
      some M
def f_X12_clearBank (Γ : rhG) (M : rhM) (v0 : Nat) : Option (rhM) :=
  rhck (Γ.2.2.1 v0 = 13) <|
  rhck (Γ.2.2.1 (M.2.2 v0 11) = 15) <|
  rhck (0 ≤ (M.1 v0 35).toInt ∧ (M.1 v0 35).toInt < (Γ.2.2.2 (M.2.2 v0 11) : Nat)) <|
  let M4 := rhsi M (M.2.2 v0 11) (M.1 v0 35 : Int32).toNatClampNeg 0
  rhck (Γ.2.2.1 (M.2.2 v0 12) = 15) <|
  rhck (0 ≤ (M4.1 v0 35).toInt ∧ (M4.1 v0 35).toInt < (Γ.2.2.2 (M.2.2 v0 12) : Nat)) <|
  let M7 := rhsi M4 (M.2.2 v0 12) (M4.1 v0 35 : Int32).toNatClampNeg 0
  rhck (Γ.2.2.1 (M.2.2 v0 13) = 15) <|
  rhck (0 ≤ (M7.1 v0 35).toInt ∧ (M7.1 v0 35).toInt < (Γ.2.2.2 (M.2.2 v0 13) : Nat)) <|
  let M10 := rhsi M7 (M.2.2 v0 13) (M7.1 v0 35 : Int32).toNatClampNeg 0
  rhck (Γ.2.2.1 (M.2.2 v0 14) = 15) <|
  rhck (0 ≤ (M10.1 v0 35).toInt ∧ (M10.1 v0 35).toInt < (Γ.2.2.2 (M.2.2 v0 14) : Nat)) <|
  let M13 := rhsi M10 (M.2.2 v0 14) (M10.1 v0 35 : Int32).toNatClampNeg 0
  rhck (Γ.2.2.1 (M.2.2 v0 15) = 15) <|
  rhck (0 ≤ (M13.1 v0 35).toInt ∧ (M13.1 v0 35).toInt < (Γ.2.2.2 (M.2.2 v0 15) : Nat)) <|
  let M16 := rhsi M13 (M.2.2 v0 15) (M13.1 v0 35 : Int32).toNatClampNeg 999
  rhck (Γ.2.2.1 (M.2.2 v0 16) = 15) <|
  rhck (0 ≤ (M16.1 v0 35).toInt ∧ (M16.1 v0 35).toInt < (Γ.2.2.2 (M.2.2 v0 16) : Nat)) <|
  let M19 := rhsi M16 (M.2.2 v0 16) (M16.1 v0 35 : Int32).toNatClampNeg 999
  rhck (Γ.2.2.1 (M.2.2 v0 23) = 17) <|
  rhck (0 ≤ (M19.1 v0 35).toInt ∧ (M19.1 v0 35).toInt < (Γ.2.2.2 (M.2.2 v0 23) : Nat)) <|
  let M22 := rhsi M19 (M.2.2 v0 23) (M19.1 v0 35 : Int32).toNatClampNeg (vp_nar .boolean 0)
  rhck (Γ.2.2.1 (M.2.2 v0 24) = 17) <|
  rhck (0 ≤ (M22.1 v0 35).toInt ∧ (M22.1 v0 35).toInt < (Γ.2.2.2 (M.2.2 v0 24) : Nat)) <|
  let M25 := rhsi M22 (M.2.2 v0 24) (M22.1 v0 35 : Int32).toNatClampNeg (vp_nar .boolean 0)
  rhck (Γ.2.2.1 (M.2.2 v0 25) = 17) <|
  rhck (0 ≤ (M25.1 v0 35).toInt ∧ (M25.1 v0 35).toInt < (Γ.2.2.2 (M.2.2 v0 25) : Nat)) <|
  let M28 := rhsi M25 (M.2.2 v0 25) (M25.1 v0 35 : Int32).toNatClampNeg (vp_nar .boolean 0)
  let M29 := rhsi M28 v0 36 (500 * (M28.1 v0 35))
  rhck (Γ.2.2.1 (M.2.2 v0 17) = 15) <|
  rhck (0 ≤ (M29.1 v0 35).toInt ∧ (M29.1 v0 35).toInt < (Γ.2.2.2 (M.2.2 v0 17) : Nat)) <|
  let M32 := rhsi M29 (M.2.2 v0 17) (M29.1 v0 35 : Int32).toNatClampNeg (M29.1 v0 36)
  let x33 := 64 * (M32.1 v0 35)
  f_X12_clearBank_127 Γ rhFU M32 v0 x33
set_option maxHeartbeats 4000000 in
set_option maxRecDepth 100000 in
theorem b_X12_clearBank_127 {E : rhE} {Γ : rhG} : ∀ (n : Nat) (M : rhM) (v0 : Nat) (v1 : Int32), rhF E 1 2 yX12_clearBank cX12_clearBank none Γ (rhe1U Γ) (f_X12_clearBank_127 Γ n M v0 v1) 127 [(0, rhR v0), (1, rhI v1)] [] Γ M := by
  intro n
  induction n with
  | zero => intro M v0 v1; rw [f_X12_clearBank_127]; exact rhF.nope
  | succ n ih =>
    intro M v0 v1
    rw [f_X12_clearBank_127]
    refine rhF.iload_n (pc := 127) dX12_clearBank_127 1 rfl ?_
    refine rhF.bipush (pc := 128) (v := 64) dX12_clearBank_128 (by decide) ?_
    refine rhF.aload_n (pc := 130) dX12_clearBank_130 0 rfl ?_
    refine rhF.ck (fun h34 => ?_)
    refine rhF.get (pc := 131) (rhI _) dX12_clearBank_131 fl_X12_318 h34 rfl ?_
    refine rhF.imul (pc := 134) dX12_clearBank_134 ?_
    refine rhF.bipush (pc := 135) (v := 64) dX12_clearBank_135 (by decide) ?_
    refine rhF.iadd (pc := 137) dX12_clearBank_137 ?_
    refine rhF.icmp_ge (pc := 138) 161 dX12_clearBank_138 (by decide) (fun h35 => ?_) (fun h35 => ?_)
    · refine rhF.aload_n (pc := 141) dX12_clearBank_141 0 rfl ?_
      refine rhF.get (pc := 142) (rhR _) dX12_clearBank_142 fl_X12_54 h34 rfl ?_
      refine rhF.iload_n (pc := 145) dX12_clearBank_145 1 rfl ?_
      refine rhF.iconst (pc := 146) (v := 0) dX12_clearBank_146 (by decide) ?_
      refine rhF.ck (fun h36 => ?_)
      refine rhF.ck (fun h37 => ?_)
      refine rhF.iast (pc := 147) dX12_clearBank_147 h36 h37 ?_
      refine rhF.aload_n (pc := 148) dX12_clearBank_148 0 rfl ?_
      refine rhF.get (pc := 149) (rhR _) dX12_clearBank_149 fl_X12_67 h34 rfl ?_
      refine rhF.iload_n (pc := 152) dX12_clearBank_152 1 rfl ?_
      refine rhF.iconst (pc := 153) (v := 0) dX12_clearBank_153 (by decide) ?_
      refine rhF.ck (fun h39 => ?_)
      refine rhF.ck (fun h40 => ?_)
      refine rhF.zast (pc := 154) dX12_clearBank_154 h39 h40 ?_
      refine rhF.iinc (pc := 155) (L' := [(1, rhI _), (0, rhR _)]) dX12_clearBank_155 1 rfl rfl (by decide) rfl ?_
      refine rhF.goto (pc := 158) 127 dX12_clearBank_158 (by decide) ?_
      refine rhF.sub [1, 0] rfl ?_
      exact ih _ _ _
    · exact rhF.vret (pc := 161) dX12_clearBank_161 rfl rfl
set_option maxHeartbeats 4000000 in
set_option maxRecDepth 100000 in
theorem b_X12_clearBank {E : rhE} {Γ : rhG} : ∀ (M : rhM) (v0 : Nat), rhF E 1 2 yX12_clearBank cX12_clearBank none Γ (rhe1U Γ) (f_X12_clearBank Γ M v0) 0 [(0, rhR v0)] [] Γ M := by
  intro M v0
  rw [f_X12_clearBank]
  refine rhF.aload_n (pc := 0) dX12_clearBank_0 0 rfl ?_
  refine rhF.ck (fun h1 => ?_)
  refine rhF.get (pc := 1) (rhR _) dX12_clearBank_1 fl_X12_20 h1 rfl ?_
  refine rhF.aload_n (pc := 4) dX12_clearBank_4 0 rfl ?_
  refine rhF.get (pc := 5) (rhI _) dX12_clearBank_5 fl_X12_318 h1 rfl ?_
  refine rhF.iconst (pc := 8) (v := 0) dX12_clearBank_8 (by decide) ?_
  refine rhF.ck (fun h2 => ?_)
  refine rhF.ck (fun h3 => ?_)
  refine rhF.iast (pc := 9) dX12_clearBank_9 h2 h3 ?_
  refine rhF.aload_n (pc := 10) dX12_clearBank_10 0 rfl ?_
  refine rhF.get (pc := 11) (rhR _) dX12_clearBank_11 fl_X12_24 h1 rfl ?_
  refine rhF.aload_n (pc := 14) dX12_clearBank_14 0 rfl ?_
  refine rhF.get (pc := 15) (rhI _) dX12_clearBank_15 fl_X12_318 h1 rfl ?_
  refine rhF.iconst (pc := 18) (v := 0) dX12_clearBank_18 (by decide) ?_
  refine rhF.ck (fun h5 => ?_)
  refine rhF.ck (fun h6 => ?_)
  refine rhF.iast (pc := 19) dX12_clearBank_19 h5 h6 ?_
  refine rhF.aload_n (pc := 20) dX12_clearBank_20 0 rfl ?_
  refine rhF.get (pc := 21) (rhR _) dX12_clearBank_21 fl_X12_27 h1 rfl ?_
  refine rhF.aload_n (pc := 24) dX12_clearBank_24 0 rfl ?_
  refine rhF.get (pc := 25) (rhI _) dX12_clearBank_25 fl_X12_318 h1 rfl ?_
  refine rhF.iconst (pc := 28) (v := 0) dX12_clearBank_28 (by decide) ?_
  refine rhF.ck (fun h8 => ?_)
  refine rhF.ck (fun h9 => ?_)
  refine rhF.iast (pc := 29) dX12_clearBank_29 h8 h9 ?_
  refine rhF.aload_n (pc := 30) dX12_clearBank_30 0 rfl ?_
  refine rhF.get (pc := 31) (rhR _) dX12_clearBank_31 fl_X12_30 h1 rfl ?_
  refine rhF.aload_n (pc := 34) dX12_clearBank_34 0 rfl ?_
  refine rhF.get (pc := 35) (rhI _) dX12_clearBank_35 fl_X12_318 h1 rfl ?_
  refine rhF.iconst (pc := 38) (v := 0) dX12_clearBank_38 (by decide) ?_
  refine rhF.ck (fun h11 => ?_)
  refine rhF.ck (fun h12 => ?_)
  refine rhF.iast (pc := 39) dX12_clearBank_39 h11 h12 ?_
  refine rhF.aload_n (pc := 40) dX12_clearBank_40 0 rfl ?_
  refine rhF.get (pc := 41) (rhR _) dX12_clearBank_41 fl_X12_33 h1 rfl ?_
  refine rhF.aload_n (pc := 44) dX12_clearBank_44 0 rfl ?_
  refine rhF.get (pc := 45) (rhI _) dX12_clearBank_45 fl_X12_318 h1 rfl ?_
  refine rhF.sipush (pc := 48) (v := 999) dX12_clearBank_48 (by decide) ?_
  refine rhF.ck (fun h14 => ?_)
  refine rhF.ck (fun h15 => ?_)
  refine rhF.iast (pc := 51) dX12_clearBank_51 h14 h15 ?_
  refine rhF.aload_n (pc := 52) dX12_clearBank_52 0 rfl ?_
  refine rhF.get (pc := 53) (rhR _) dX12_clearBank_53 fl_X12_36 h1 rfl ?_
  refine rhF.aload_n (pc := 56) dX12_clearBank_56 0 rfl ?_
  refine rhF.get (pc := 57) (rhI _) dX12_clearBank_57 fl_X12_318 h1 rfl ?_
  refine rhF.sipush (pc := 60) (v := 999) dX12_clearBank_60 (by decide) ?_
  refine rhF.ck (fun h17 => ?_)
  refine rhF.ck (fun h18 => ?_)
  refine rhF.iast (pc := 63) dX12_clearBank_63 h17 h18 ?_
  refine rhF.aload_n (pc := 64) dX12_clearBank_64 0 rfl ?_
  refine rhF.get (pc := 65) (rhR _) dX12_clearBank_65 fl_X12_57 h1 rfl ?_
  refine rhF.aload_n (pc := 68) dX12_clearBank_68 0 rfl ?_
  refine rhF.get (pc := 69) (rhI _) dX12_clearBank_69 fl_X12_318 h1 rfl ?_
  refine rhF.iconst (pc := 72) (v := 0) dX12_clearBank_72 (by decide) ?_
  refine rhF.ck (fun h20 => ?_)
  refine rhF.ck (fun h21 => ?_)
  refine rhF.zast (pc := 73) dX12_clearBank_73 h20 h21 ?_
  refine rhF.aload_n (pc := 74) dX12_clearBank_74 0 rfl ?_
  refine rhF.get (pc := 75) (rhR _) dX12_clearBank_75 fl_X12_61 h1 rfl ?_
  refine rhF.aload_n (pc := 78) dX12_clearBank_78 0 rfl ?_
  refine rhF.get (pc := 79) (rhI _) dX12_clearBank_79 fl_X12_318 h1 rfl ?_
  refine rhF.iconst (pc := 82) (v := 0) dX12_clearBank_82 (by decide) ?_
  refine rhF.ck (fun h23 => ?_)
  refine rhF.ck (fun h24 => ?_)
  refine rhF.zast (pc := 83) dX12_clearBank_83 h23 h24 ?_
  refine rhF.aload_n (pc := 84) dX12_clearBank_84 0 rfl ?_
  refine rhF.get (pc := 85) (rhR _) dX12_clearBank_85 fl_X12_64 h1 rfl ?_
  refine rhF.aload_n (pc := 88) dX12_clearBank_88 0 rfl ?_
  refine rhF.get (pc := 89) (rhI _) dX12_clearBank_89 fl_X12_318 h1 rfl ?_
  refine rhF.iconst (pc := 92) (v := 0) dX12_clearBank_92 (by decide) ?_
  refine rhF.ck (fun h26 => ?_)
  refine rhF.ck (fun h27 => ?_)
  refine rhF.zast (pc := 93) dX12_clearBank_93 h26 h27 ?_
  refine rhF.aload_n (pc := 94) dX12_clearBank_94 0 rfl ?_
  refine rhF.sipush (pc := 95) (v := 500) dX12_clearBank_95 (by decide) ?_
  refine rhF.aload_n (pc := 98) dX12_clearBank_98 0 rfl ?_
  refine rhF.get (pc := 99) (rhI _) dX12_clearBank_99 fl_X12_318 h1 rfl ?_
  refine rhF.imul (pc := 102) dX12_clearBank_102 ?_
  refine rhF.puti (pc := 103) dX12_clearBank_103 fl_X12_321 h1 (fun q hq => by cases hq; exact Or.inl rfl) ⟨rfl, rfl⟩ (fun _ => rfl) ?_
  refine rhF.aload_n (pc := 106) dX12_clearBank_106 0 rfl ?_
  refine rhF.get (pc := 107) (rhR _) dX12_clearBank_107 fl_X12_39 h1 rfl ?_
  refine rhF.aload_n (pc := 110) dX12_clearBank_110 0 rfl ?_
  refine rhF.get (pc := 111) (rhI _) dX12_clearBank_111 fl_X12_318 h1 rfl ?_
  refine rhF.aload_n (pc := 114) dX12_clearBank_114 0 rfl ?_
  refine rhF.get (pc := 115) (rhI _) dX12_clearBank_115 fl_X12_321 h1 rfl ?_
  refine rhF.ck (fun h30 => ?_)
  refine rhF.ck (fun h31 => ?_)
  refine rhF.iast (pc := 118) dX12_clearBank_118 h30 h31 ?_
  refine rhF.bipush (pc := 119) (v := 64) dX12_clearBank_119 (by decide) ?_
  refine rhF.aload_n (pc := 121) dX12_clearBank_121 0 rfl ?_
  refine rhF.get (pc := 122) (rhI _) dX12_clearBank_122 fl_X12_318 h1 rfl ?_
  refine rhF.imul (pc := 125) dX12_clearBank_125 ?_
  refine rhF.istore_n (pc := 126) (L' := [(1, rhI _), (0, rhR _)]) dX12_clearBank_126 (by decide) rfl ?_
  refine rhF.sub [1, 0] rfl ?_
  exact (b_X12_clearBank_127 rhFU) _ _ _
theorem c_X12_clearBank (E : rhE) (Γ : rhG) (M : rhM) (v0 : Nat) : ∀ a, f_X12_clearBank Γ M v0 = some a → rhC E 1 yX12_clearBank cX12_clearBank 2 none [rhR v0] Γ M ((rhe1U Γ) a) := rhF.met (by decide +kernel) (Nat.le_of_ble_eq_true rfl) (b_X12_clearBank M v0)
def f_X12_here_34 (k3 : Nat → Nat → Int32 → Int32 → Int32 → Option (Int32)) (Γ : rhG) (M : rhM) (v0 : Nat) (v1 : Nat) (v2 : Int32) (v3 : Int32) (v4 : Int32) : Option (Int32) :=
  let x7 : Int32 := v4 + 1
  k3 v0 v1 v2 v3 x7
def f_X12_here_3 (Γ : rhG) (M : rhM) : Nat → Nat → Nat → Int32 → Int32 → Int32 → Option (Int32)
  | 0, _, _, _, _, _ => none
  | n + 1, v0, v1, v2, v3, v4 =>
    if v4 < v3 then
      (rhck (Γ.2.2.1 v0 = 13) <|
      if (M.1 v0 8) = 2 then
        (rhck (Γ.2.2.1 v1 = 16) <|
        rhck (0 ≤ (v2 + v4).toInt ∧ (v2 + v4).toInt < (Γ.2.2.2 v1 : Nat)) <|
        if (M.2.1 v1 (v2 + v4).toNatClampNeg) = (M.2.1 v0 10) then
          (some v4)
        else
          f_X12_here_34 (f_X12_here_3 Γ M n) Γ M v0 v1 v2 v3 v4)
      else
        f_X12_here_34 (f_X12_here_3 Γ M n) Γ M v0 v1 v2 v3 v4)
    else
      some ((-1))
def f_X12_here (Γ : rhG) (M : rhM) (v0 : Nat) (v1 : Nat) (v2 : Int32) (v3 : Int32) : Option (Int32) :=
  f_X12_here_3 Γ M rhFU v0 v1 v2 v3 0
set_option maxHeartbeats 4000000 in
set_option maxRecDepth 100000 in
theorem b_X12_here_34 {E : rhE} {Γ : rhG} {M : rhM} {k3 : Nat → Nat → Int32 → Int32 → Int32 → Option (Int32)} (hk3 : ∀ (v0 : Nat) (v1 : Nat) (v2 : Int32) (v3 : Int32) (v4 : Int32), rhF E 1 5 yX12_here cX12_here (some .int) Γ (rhe0I Γ M) (k3 v0 v1 v2 v3 v4) 3 [(0, rhR v0), (1, rhR v1), (2, rhI v2), (3, rhI v3), (4, rhI v4)] [] Γ M) : ∀ (v0 : Nat) (v1 : Nat) (v2 : Int32) (v3 : Int32) (v4 : Int32), rhF E 1 5 yX12_here cX12_here (some .int) Γ (rhe0I Γ M) (f_X12_here_34 k3 Γ M v0 v1 v2 v3 v4) 34 [(0, rhR v0), (1, rhR v1), (2, rhI v2), (3, rhI v3), (4, rhI v4)] [] Γ M := by
  intro v0 v1 v2 v3 v4
  rw [f_X12_here_34]
  refine rhF.iinc (pc := 34) (L' := [(4, rhI _), (0, rhR _), (1, rhR _), (2, rhI _), (3, rhI _)]) dX12_here_34 4 rfl rfl (by decide) rfl ?_
  refine rhF.goto (pc := 37) 3 dX12_here_37 (by decide) ?_
  refine rhF.sub [1, 2, 3, 4, 0] rfl ?_
  exact hk3 _ _ _ _ _
set_option maxHeartbeats 4000000 in
set_option maxRecDepth 100000 in
theorem b_X12_here_3 {E : rhE} {Γ : rhG} {M : rhM} : ∀ (n : Nat) (v0 : Nat) (v1 : Nat) (v2 : Int32) (v3 : Int32) (v4 : Int32), rhF E 1 5 yX12_here cX12_here (some .int) Γ (rhe0I Γ M) (f_X12_here_3 Γ M n v0 v1 v2 v3 v4) 3 [(0, rhR v0), (1, rhR v1), (2, rhI v2), (3, rhI v3), (4, rhI v4)] [] Γ M := by
  intro n
  induction n with
  | zero => intro v0 v1 v2 v3 v4; rw [f_X12_here_3]; exact rhF.nope
  | succ n ih =>
    intro v0 v1 v2 v3 v4
    rw [f_X12_here_3]
    refine rhF.iload (pc := 3) dX12_here_3 4 rfl ?_
    refine rhF.iload_n (pc := 5) dX12_here_5 3 rfl ?_
    refine rhF.icmp_ge (pc := 6) 40 dX12_here_6 (by decide) (fun h1 => ?_) (fun h1 => ?_)
    · refine rhF.aload_n (pc := 9) dX12_here_9 0 rfl ?_
      refine rhF.ck (fun h2 => ?_)
      refine rhF.get (pc := 10) (rhI _) dX12_here_10 fl_X12_266 h2 rfl ?_
      refine rhF.iconst (pc := 13) (v := 2) dX12_here_13 (by decide) ?_
      refine rhF.icmp_ne (pc := 14) 34 dX12_here_14 (by decide) (fun h3 => ?_) (fun h3 => ?_)
      · refine rhF.aload_n (pc := 17) dX12_here_17 1 rfl ?_
        refine rhF.iload_n (pc := 18) dX12_here_18 2 rfl ?_
        refine rhF.iload (pc := 19) dX12_here_19 4 rfl ?_
        refine rhF.iadd (pc := 21) dX12_here_21 ?_
        refine rhF.ck (fun h4 => ?_)
        refine rhF.ck (fun h5 => ?_)
        refine rhF.lald (pc := 22) dX12_here_22 h4 h5 ?_
        refine rhF.aload_n (pc := 23) dX12_here_23 0 rfl ?_
        refine rhF.get (pc := 24) (rhJ _) dX12_here_24 fl_X12_273 h2 rfl ?_
        refine rhF.lcne (pc := 27) 34 dX12_here_27 dX12_here_28 (by decide) (fun h6 => ?_) (fun h6 => ?_)
        · refine rhF.iload (pc := 31) dX12_here_31 4 rfl ?_
          exact rhF.zret (pc := 33) dX12_here_33 rfl rfl rfl
        · exact (b_X12_here_34 ih) _ _ _ _ _
      · exact (b_X12_here_34 ih) _ _ _ _ _
    · refine rhF.iconst (pc := 40) (v := (-1)) dX12_here_40 (by decide) ?_
      exact rhF.zret (pc := 41) dX12_here_41 rfl rfl rfl
set_option maxHeartbeats 4000000 in
set_option maxRecDepth 100000 in
theorem b_X12_here {E : rhE} {Γ : rhG} {M : rhM} : ∀ (v0 : Nat) (v1 : Nat) (v2 : Int32) (v3 : Int32), rhF E 1 5 yX12_here cX12_here (some .int) Γ (rhe0I Γ M) (f_X12_here Γ M v0 v1 v2 v3) 0 [(0, rhR v0), (1, rhR v1), (2, rhI v2), (3, rhI v3)] [] Γ M := by
  intro v0 v1 v2 v3
  rw [f_X12_here]
  refine rhF.iconst (pc := 0) (v := 0) dX12_here_0 (by decide) ?_
  refine rhF.istore (pc := 1) (L' := [(4, rhI _), (0, rhR _), (1, rhR _), (2, rhI _), (3, rhI _)]) dX12_here_1 (by decide) rfl ?_
  refine rhF.sub [1, 2, 3, 4, 0] rfl ?_
  exact (b_X12_here_3 rhFU) _ _ _ _ _
theorem c_X12_here (E : rhE) (Γ : rhG) (M : rhM) (v0 : Nat) (v1 : Nat) (v2 : Int32) (v3 : Int32) : ∀ a, f_X12_here Γ M v0 v1 v2 v3 = some a → rhC E 1 yX12_here cX12_here 5 (some .int) [rhR v0, rhR v1, rhI v2, rhI v3] Γ M ((rhe0I Γ M) a) := rhF.met (by decide +kernel) (Nat.le_of_ble_eq_true rfl) (b_X12_here v0 v1 v2 v3)
def f_X12_houseHere (Γ : rhG) (M : rhM) (v0 : Nat) : Option (Int32) :=
  rhck (Γ.2.2.1 v0 = 13) <|
  rhck (Γ.2.2.1 (M.2.2 v0 12) = 15) <|
  rhck (0 ≤ (M.1 v0 35).toInt ∧ (M.1 v0 35).toInt < (Γ.2.2.2 (M.2.2 v0 12) : Nat)) <|
  (f_X12_here Γ M v0 (M.2.2 v0 28) (8 * (M.1 v0 35)) (M.1 (M.2.2 v0 12) (M.1 v0 35).toNatClampNeg)).bind fun r4 =>
  some r4
set_option maxHeartbeats 4000000 in
set_option maxRecDepth 100000 in
theorem b_X12_houseHere {E : rhE} {Γ : rhG} {M : rhM} : ∀ (v0 : Nat), rhF E 5 1 yX12_houseHere cX12_houseHere (some .int) Γ (rhe0I Γ M) (f_X12_houseHere Γ M v0) 0 [(0, rhR v0)] [] Γ M := by
  intro v0
  rw [f_X12_houseHere]
  refine rhF.aload_n (pc := 0) dX12_houseHere_0 0 rfl ?_
  refine rhF.aload_n (pc := 1) dX12_houseHere_1 0 rfl ?_
  refine rhF.ck (fun h1 => ?_)
  refine rhF.get (pc := 2) (rhR _) dX12_houseHere_2 fl_X12_74 h1 rfl ?_
  refine rhF.bipush (pc := 5) (v := 8) dX12_houseHere_5 (by decide) ?_
  refine rhF.aload_n (pc := 7) dX12_houseHere_7 0 rfl ?_
  refine rhF.get (pc := 8) (rhI _) dX12_houseHere_8 fl_X12_318 h1 rfl ?_
  refine rhF.imul (pc := 11) dX12_houseHere_11 ?_
  refine rhF.aload_n (pc := 12) dX12_houseHere_12 0 rfl ?_
  refine rhF.get (pc := 13) (rhR _) dX12_houseHere_13 fl_X12_24 h1 rfl ?_
  refine rhF.aload_n (pc := 16) dX12_houseHere_16 0 rfl ?_
  refine rhF.get (pc := 17) (rhI _) dX12_houseHere_17 fl_X12_318 h1 rfl ?_
  refine rhF.ck (fun h2 => ?_)
  refine rhF.ck (fun h3 => ?_)
  refine rhF.iald (pc := 20) dX12_houseHere_20 h2 h3 ?_
  refine rhF.callV (pc := 21) (ci := 12) (embc := rhe0I _ _) [rhR _, rhI _, rhI _] dX12_houseHere_21 ml_X12_360 mv_X12_here ⟨_, rfl, rfl⟩ h1 (c_X12_here _ _ _ _ _ _ _) (by decide) (by decide) rfl (Nat.le_of_ble_eq_true rfl) (fun r4 _ => ?_)
  exact rhF.zret (pc := 24) dX12_houseHere_24 rfl rfl rfl
theorem c_X12_houseHere (E : rhE) (Γ : rhG) (M : rhM) (v0 : Nat) : ∀ a, f_X12_houseHere Γ M v0 = some a → rhC E 5 yX12_houseHere cX12_houseHere 1 (some .int) [rhR v0] Γ M ((rhe0I Γ M) a) := rhF.met (by decide +kernel) (Nat.le_of_ble_eq_true rfl) (b_X12_houseHere v0)
def f_X12_known_48 (Γ : rhG) (M : rhM) (v1 : Int32) : Option (Int32 × rhM) :=
  if v1 < 0 then
    (some ((0, M)))
  else
    some ((v1, M))
def f_X12_known_37 (Γ : rhG) (M : rhM) (v0 : Nat) (v1 : Int32) : Option (Int32 × rhM) :=
  rhck (Γ.2.2.1 v0 = 13) <|
  (f_X12_isGood Γ M v0).bind fun r8 =>
  if r8 = 0 then
    (f_X12_known_48 Γ M v1)
  else
    (f_X12_goOn Γ M v0).bind fun r11 =>
    f_X12_known_48 Γ r11 v1
def f_X12_known (Γ : rhG) (M : rhM) (v0 : Nat) (v1 : Int32) : Option (Int32 × rhM) :=
  rhck (Γ.2.2.1 v0 = 13) <|
  (f_X12_isGood Γ M v0).bind fun r2 =>
  if r2 = 0 then
    (some ((0, M)))
  else
    if (M.1 v0 8) = 2 then
      (if v1 < 0 then
        ((f_X12_fails Γ M v0 (5 : Int32) (M.1 v0 6)).bind fun r6 =>
        f_X12_known_37 Γ r6 v0 v1)
      else
        f_X12_known_37 Γ M v0 v1)
    else
      (f_X12_misplaced Γ M v0).bind fun r12 =>
      f_X12_known_37 Γ r12 v0 v1
set_option maxHeartbeats 4000000 in
set_option maxRecDepth 100000 in
theorem b_X12_known_48 {E : rhE} {Γ : rhG} : ∀ (M : rhM) (v1 : Int32), rhF E 6 2 yX12_known cX12_known (some .int) Γ (rhe1I Γ) (f_X12_known_48 Γ M v1) 48 [(1, rhI v1)] [] Γ M := by
  intro M v1
  rw [f_X12_known_48]
  refine rhF.iload_n (pc := 48) dX12_known_48 0 rfl ?_
  refine rhF.if_ge (pc := 49) 56 dX12_known_49 (by decide) (fun h10 => ?_) (fun h10 => ?_)
  · refine rhF.iconst (pc := 52) (v := 0) dX12_known_52 (by decide) ?_
    refine rhF.goto (pc := 53) 57 dX12_known_53 (by decide) ?_
    exact rhF.zret (pc := 57) dX12_known_57 rfl rfl rfl
  · refine rhF.iload_n (pc := 56) dX12_known_56 0 rfl ?_
    exact rhF.zret (pc := 57) dX12_known_57 rfl rfl rfl
set_option maxHeartbeats 4000000 in
set_option maxRecDepth 100000 in
theorem b_X12_known_37 {E : rhE} {Γ : rhG} : ∀ (M : rhM) (v0 : Nat) (v1 : Int32), rhF E 6 2 yX12_known cX12_known (some .int) Γ (rhe1I Γ) (f_X12_known_37 Γ M v0 v1) 37 [(0, rhR v0), (1, rhI v1)] [] Γ M := by
  intro M v0 v1
  rw [f_X12_known_37]
  refine rhF.aload_n (pc := 37) dX12_known_37 0 rfl ?_
  refine rhF.ck (fun h7 => ?_)
  refine rhF.callV (pc := 38) (ci := 12) (embc := rhe0I _ _) [] dX12_known_38 ml_X12_294 mv_X12_isGood ⟨_, rfl, rfl⟩ h7 (c_X12_isGood _ _ _ _) (by decide) (by decide) rfl (Nat.le_of_ble_eq_true rfl) (fun r8 _ => ?_)
  refine rhF.if_eq (pc := 41) 48 dX12_known_41 (by decide) (fun h9 => ?_) (fun h9 => ?_)
  · refine rhF.sub [1] rfl ?_
    exact (b_X12_known_48) _ _
  · refine rhF.aload_n (pc := 44) dX12_known_44 0 rfl ?_
    refine rhF.callV (pc := 45) (ci := 12) (embc := rhe1U _) [] dX12_known_45 ml_X12_298 mv_X12_goOn ⟨_, rfl, rfl⟩ h7 (c_X12_goOn _ _ _ _) (by decide) (by decide) rfl (Nat.le_of_ble_eq_true rfl) (fun r11 _ => ?_)
    refine rhF.sub [1] rfl ?_
    exact (b_X12_known_48) _ _
set_option maxHeartbeats 4000000 in
set_option maxRecDepth 100000 in
theorem b_X12_known {E : rhE} {Γ : rhG} : ∀ (M : rhM) (v0 : Nat) (v1 : Int32), rhF E 6 2 yX12_known cX12_known (some .int) Γ (rhe1I Γ) (f_X12_known Γ M v0 v1) 0 [(0, rhR v0), (1, rhI v1)] [] Γ M := by
  intro M v0 v1
  rw [f_X12_known]
  refine rhF.aload_n (pc := 0) dX12_known_0 0 rfl ?_
  refine rhF.ck (fun h1 => ?_)
  refine rhF.callV (pc := 1) (ci := 12) (embc := rhe0I _ _) [] dX12_known_1 ml_X12_294 mv_X12_isGood ⟨_, rfl, rfl⟩ h1 (c_X12_isGood _ _ _ _) (by decide) (by decide) rfl (Nat.le_of_ble_eq_true rfl) (fun r2 _ => ?_)
  refine rhF.if_ne (pc := 4) 9 dX12_known_4 (by decide) (fun h3 => ?_) (fun h3 => ?_)
  · refine rhF.iconst (pc := 7) (v := 0) dX12_known_7 (by decide) ?_
    exact rhF.zret (pc := 8) dX12_known_8 rfl rfl rfl
  · refine rhF.aload_n (pc := 9) dX12_known_9 0 rfl ?_
    refine rhF.get (pc := 10) (rhI _) dX12_known_10 fl_X12_266 h1 rfl ?_
    refine rhF.iconst (pc := 13) (v := 2) dX12_known_13 (by decide) ?_
    refine rhF.icmp_eq (pc := 14) 24 dX12_known_14 (by decide) (fun h4 => ?_) (fun h4 => ?_)
    · refine rhF.iload_n (pc := 24) dX12_known_24 1 rfl ?_
      refine rhF.if_ge (pc := 25) 37 dX12_known_25 (by decide) (fun h5 => ?_) (fun h5 => ?_)
      · refine rhF.aload_n (pc := 28) dX12_known_28 0 rfl ?_
        refine rhF.iconst (pc := 29) (v := 5) dX12_known_29 (by decide) ?_
        refine rhF.aload_n (pc := 30) dX12_known_30 0 rfl ?_
        refine rhF.get (pc := 31) (rhI _) dX12_known_31 fl_X12_259 h1 rfl ?_
        refine rhF.callV (pc := 34) (ci := 12) (embc := rhe1U _) [rhI _, rhI _] dX12_known_34 ml_X12_290 mv_X12_fails ⟨_, rfl, rfl⟩ h1 (c_X12_fails _ _ _ _ _ _) (by decide) (by decide) rfl (Nat.le_of_ble_eq_true rfl) (fun r6 _ => ?_)
        exact (b_X12_known_37) _ _ _
      · exact (b_X12_known_37) _ _ _
    · refine rhF.aload_n (pc := 17) dX12_known_17 0 rfl ?_
      refine rhF.callV (pc := 18) (ci := 12) (embc := rhe1U _) [] dX12_known_18 ml_X12_301 mv_X12_misplaced ⟨_, rfl, rfl⟩ h1 (c_X12_misplaced _ _ _ _) (by decide) (by decide) rfl (Nat.le_of_ble_eq_true rfl) (fun r12 _ => ?_)
      refine rhF.goto (pc := 21) 37 dX12_known_21 (by decide) ?_
      exact (b_X12_known_37) _ _ _
theorem c_X12_known (E : rhE) (Γ : rhG) (M : rhM) (v0 : Nat) (v1 : Int32) : ∀ a, f_X12_known Γ M v0 v1 = some a → rhC E 6 yX12_known cX12_known 2 (some .int) [rhR v0, rhI v1] Γ M ((rhe1I Γ) a) := rhF.met (by decide +kernel) (Nat.le_of_ble_eq_true rfl) (b_X12_known M v0 v1)
def f_X12_wordHere (Γ : rhG) (M : rhM) (v0 : Nat) : Option (Int32) :=
  rhck (Γ.2.2.1 v0 = 13) <|
  (f_X12_isWord Γ M v0 ((1835101817 : Int64))).bind fun r2 =>
  if r2 = 0 then
    ((f_X12_isWord Γ M v0 ((131277443786868 : Int64))).bind fun r4 =>
    if r4 = 0 then
      ((f_X12_isWord Γ M v0 ((119182899770472 : Int64))).bind fun r6 =>
      if r6 = 0 then
        ((f_X12_isWord Γ M v0 ((1718775661 : Int64))).bind fun r8 =>
        if r8 = 0 then
          ((f_X12_isWord Γ M v0 ((29807 : Int64))).bind fun r10 =>
          if r10 = 0 then
            ((f_X12_isWord Γ M v0 ((1919905645 : Int64))).bind fun r12 =>
            if r12 = 0 then
              ((f_X12_isWord Γ M v0 ((499850634611 : Int64))).bind fun r14 =>
              if r14 = 0 then
                (some 0)
              else
                some 104)
            else
              some 114)
          else
            some 116)
        else
          some 102)
      else
        some 108)
    else
      some 119)
  else
    some 109
set_option maxHeartbeats 4000000 in
set_option maxRecDepth 100000 in
theorem b_X12_wordHere {E : rhE} {Γ : rhG} {M : rhM} : ∀ (v0 : Nat), rhF E 5 1 yX12_wordHere cX12_wordHere (some .int) Γ (rhe0I Γ M) (f_X12_wordHere Γ M v0) 0 [(0, rhR v0)] [] Γ M := by
  intro v0
  rw [f_X12_wordHere]
  refine rhF.aload_n (pc := 0) dX12_wordHere_0 0 rfl ?_
  refine rhF.ldc2 (pc := 1) dX12_wordHere_1 k_X12_240 ?_
  refine rhF.ck (fun h1 => ?_)
  refine rhF.callV (pc := 4) (ci := 12) (embc := rhe0I _ _) [rhJ _] dX12_wordHere_4 ml_X12_304 mv_X12_isWord ⟨_, rfl, rfl⟩ h1 (c_X12_isWord _ _ _ _ _) (by decide) (by decide) rfl (Nat.le_of_ble_eq_true rfl) (fun r2 _ => ?_)
  refine rhF.if_eq (pc := 7) 13 dX12_wordHere_7 (by decide) (fun h3 => ?_) (fun h3 => ?_)
  · refine rhF.aload_n (pc := 13) dX12_wordHere_13 0 rfl ?_
    refine rhF.ldc2 (pc := 14) dX12_wordHere_14 k_X12_226 ?_
    refine rhF.callV (pc := 17) (ci := 12) (embc := rhe0I _ _) [rhJ _] dX12_wordHere_17 ml_X12_304 mv_X12_isWord ⟨_, rfl, rfl⟩ h1 (c_X12_isWord _ _ _ _ _) (by decide) (by decide) rfl (Nat.le_of_ble_eq_true rfl) (fun r4 _ => ?_)
    refine rhF.if_eq (pc := 20) 26 dX12_wordHere_20 (by decide) (fun h5 => ?_) (fun h5 => ?_)
    · refine rhF.aload_n (pc := 26) dX12_wordHere_26 0 rfl ?_
      refine rhF.ldc2 (pc := 27) dX12_wordHere_27 k_X12_222 ?_
      refine rhF.callV (pc := 30) (ci := 12) (embc := rhe0I _ _) [rhJ _] dX12_wordHere_30 ml_X12_304 mv_X12_isWord ⟨_, rfl, rfl⟩ h1 (c_X12_isWord _ _ _ _ _) (by decide) (by decide) rfl (Nat.le_of_ble_eq_true rfl) (fun r6 _ => ?_)
      refine rhF.if_eq (pc := 33) 39 dX12_wordHere_33 (by decide) (fun h7 => ?_) (fun h7 => ?_)
      · refine rhF.aload_n (pc := 39) dX12_wordHere_39 0 rfl ?_
        refine rhF.ldc2 (pc := 40) dX12_wordHere_40 k_X12_242 ?_
        refine rhF.callV (pc := 43) (ci := 12) (embc := rhe0I _ _) [rhJ _] dX12_wordHere_43 ml_X12_304 mv_X12_isWord ⟨_, rfl, rfl⟩ h1 (c_X12_isWord _ _ _ _ _) (by decide) (by decide) rfl (Nat.le_of_ble_eq_true rfl) (fun r8 _ => ?_)
        refine rhF.if_eq (pc := 46) 52 dX12_wordHere_46 (by decide) (fun h9 => ?_) (fun h9 => ?_)
        · refine rhF.aload_n (pc := 52) dX12_wordHere_52 0 rfl ?_
          refine rhF.ldc2 (pc := 53) dX12_wordHere_53 k_X12_244 ?_
          refine rhF.callV (pc := 56) (ci := 12) (embc := rhe0I _ _) [rhJ _] dX12_wordHere_56 ml_X12_304 mv_X12_isWord ⟨_, rfl, rfl⟩ h1 (c_X12_isWord _ _ _ _ _) (by decide) (by decide) rfl (Nat.le_of_ble_eq_true rfl) (fun r10 _ => ?_)
          refine rhF.if_eq (pc := 59) 65 dX12_wordHere_59 (by decide) (fun h11 => ?_) (fun h11 => ?_)
          · refine rhF.aload_n (pc := 65) dX12_wordHere_65 0 rfl ?_
            refine rhF.ldc2 (pc := 66) dX12_wordHere_66 k_X12_246 ?_
            refine rhF.callV (pc := 69) (ci := 12) (embc := rhe0I _ _) [rhJ _] dX12_wordHere_69 ml_X12_304 mv_X12_isWord ⟨_, rfl, rfl⟩ h1 (c_X12_isWord _ _ _ _ _) (by decide) (by decide) rfl (Nat.le_of_ble_eq_true rfl) (fun r12 _ => ?_)
            refine rhF.if_eq (pc := 72) 78 dX12_wordHere_72 (by decide) (fun h13 => ?_) (fun h13 => ?_)
            · refine rhF.aload_n (pc := 78) dX12_wordHere_78 0 rfl ?_
              refine rhF.ldc2 (pc := 79) dX12_wordHere_79 k_X12_248 ?_
              refine rhF.callV (pc := 82) (ci := 12) (embc := rhe0I _ _) [rhJ _] dX12_wordHere_82 ml_X12_304 mv_X12_isWord ⟨_, rfl, rfl⟩ h1 (c_X12_isWord _ _ _ _ _) (by decide) (by decide) rfl (Nat.le_of_ble_eq_true rfl) (fun r14 _ => ?_)
              refine rhF.if_eq (pc := 85) 93 dX12_wordHere_85 (by decide) (fun h15 => ?_) (fun h15 => ?_)
              · refine rhF.iconst (pc := 93) (v := 0) dX12_wordHere_93 (by decide) ?_
                exact rhF.zret (pc := 94) dX12_wordHere_94 rfl rfl rfl
              · refine rhF.bipush (pc := 88) (v := 104) dX12_wordHere_88 (by decide) ?_
                refine rhF.goto (pc := 90) 94 dX12_wordHere_90 (by decide) ?_
                exact rhF.zret (pc := 94) dX12_wordHere_94 rfl rfl rfl
            · refine rhF.bipush (pc := 75) (v := 114) dX12_wordHere_75 (by decide) ?_
              exact rhF.zret (pc := 77) dX12_wordHere_77 rfl rfl rfl
          · refine rhF.bipush (pc := 62) (v := 116) dX12_wordHere_62 (by decide) ?_
            exact rhF.zret (pc := 64) dX12_wordHere_64 rfl rfl rfl
        · refine rhF.bipush (pc := 49) (v := 102) dX12_wordHere_49 (by decide) ?_
          exact rhF.zret (pc := 51) dX12_wordHere_51 rfl rfl rfl
      · refine rhF.bipush (pc := 36) (v := 108) dX12_wordHere_36 (by decide) ?_
        exact rhF.zret (pc := 38) dX12_wordHere_38 rfl rfl rfl
    · refine rhF.bipush (pc := 23) (v := 119) dX12_wordHere_23 (by decide) ?_
      exact rhF.zret (pc := 25) dX12_wordHere_25 rfl rfl rfl
  · refine rhF.bipush (pc := 10) (v := 109) dX12_wordHere_10 (by decide) ?_
    exact rhF.zret (pc := 12) dX12_wordHere_12 rfl rfl rfl
theorem c_X12_wordHere (E : rhE) (Γ : rhG) (M : rhM) (v0 : Nat) : ∀ a, f_X12_wordHere Γ M v0 = some a → rhC E 5 yX12_wordHere cX12_wordHere 1 (some .int) [rhR v0] Γ M ((rhe0I Γ M) a) := rhF.met (by decide +kernel) (Nat.le_of_ble_eq_true rfl) (b_X12_wordHere v0)
def f_X12_unit_55 (k56 : rhM → Nat → Int32 → Option (Int32 × rhM)) (Γ : rhG) (M : rhM) (v0 : Nat) : Option (Int32 × rhM) :=
  k56 M v0 0
def f_X12_unit_91 (k105 : rhM → Nat → Int32 → Int32 → Int32 → Option (Int32 × rhM)) (k122 : rhM → Nat → Int32 → Int32 → Int32 → Option (Int32 × rhM)) (Γ : rhG) (M : rhM) (v0 : Nat) (v2 : Int32) (v3 : Int32) (v4 : Int32) : Option (Int32 × rhM) :=
  rhck (Γ.2.2.1 v0 = 13) <|
  rhck (Γ.2.2.1 (M.2.2 v0 14) = 15) <|
  rhck (0 ≤ (M.1 v0 35).toInt ∧ (M.1 v0 35).toInt < (Γ.2.2.2 (M.2.2 v0 14) : Nat)) <|
  if (M.1 (M.2.2 v0 14) (M.1 v0 35).toNatClampNeg) = 40 then
    (k122 M v0 v2 v3 v4)
  else
    k105 M v0 v2 v3 v4
def f_X12_unit_113 (k122 : rhM → Nat → Int32 → Int32 → Int32 → Option (Int32 × rhM)) (k126 : rhM → Nat → Int32 → Int32 → Int32 → Option (Int32 × rhM)) (Γ : rhG) (M : rhM) (v0 : Nat) (v2 : Int32) (v3 : Int32) (v4 : Int32) : Option (Int32 × rhM) :=
  rhck (Γ.2.2.1 v0 = 13) <|
  if (M.1 v0 37) = 7 then
    (k122 M v0 v2 v3 v4)
  else
    k126 M v0 v2 v3 v4
def f_X12_unit_105 (k122 : rhM → Nat → Int32 → Int32 → Int32 → Option (Int32 × rhM)) (k126 : rhM → Nat → Int32 → Int32 → Int32 → Option (Int32 × rhM)) (Γ : rhG) (M : rhM) (v0 : Nat) (v2 : Int32) (v3 : Int32) (v4 : Int32) : Option (Int32 × rhM) :=
  if v2 = 0 then
    (if v3 = 0 then
      (k126 M v0 v2 v3 v4)
    else
      f_X12_unit_113 k122 k126 Γ M v0 v2 v3 v4)
  else
    f_X12_unit_113 k122 k126 Γ M v0 v2 v3 v4
def f_X12_unit_122 (k126 : rhM → Nat → Int32 → Int32 → Int32 → Option (Int32 × rhM)) (Γ : rhG) (M : rhM) (v0 : Nat) (v2 : Int32) (v3 : Int32) (v4 : Int32) : Option (Int32 × rhM) :=
  rhck (Γ.2.2.1 v0 = 13) <|
  (f_X12_misplaced Γ M v0).bind fun r22 =>
  k126 r22 v0 v2 v3 v4
def f_X12_unit_241 (Γ : rhG) (M : rhM) (v5 : Int32) (s0 : Nat) (s1 : Int32) : Option (Int32 × rhM) :=
  rhck (Γ.2.2.1 s0 = 13) <|
  (f_X12_emit Γ M s0 s1 v5).bind fun r44 =>
  some ((0, r44))
def f_X12_unit_228 (Γ : rhG) (M : rhM) (v0 : Nat) (v4 : Int32) (v5 : Int32) : Option (Int32 × rhM) :=
  if v4 = 0 then
    (f_X12_unit_241 Γ M v5 v0 110)
  else
    f_X12_unit_241 Γ M v5 v0 v4
def f_X12_unit_194 (Γ : rhG) (M : rhM) (v0 : Nat) (s0 : Nat) (s1 : Int32) : Option (Int32 × rhM) :=
  rhck (Γ.2.2.1 s0 = 13) <|
  (f_X12_pushE Γ M s0 s1 (126 : Int32)).bind fun r47 =>
  rhck (Γ.2.2.1 v0 = 13) <|
  let M49 := rhsi r47 v0 37 ((r47.1 v0 37) + 1)
  some ((1, M49))
def f_X12_unit_183 (Γ : rhG) (M : rhM) (v0 : Nat) (v2 : Int32) : Option (Int32 × rhM) :=
  if v2 = 0 then
    (f_X12_unit_194 Γ M v0 v0 7)
  else
    f_X12_unit_194 Γ M v0 v0 3
def f_X12_unit_169 (Γ : rhG) (M : rhM) (v0 : Nat) (v2 : Int32) (v3 : Int32) (v4 : Int32) (s0 : Int32) : Option (Int32 × rhM) :=
  rhck (Γ.2.2.1 v0 = 13) <|
  (f_X12_goOn Γ M v0).bind fun r35 =>
  if v2 = 0 then
    (if v3 = 0 then
      (if v4 = 104 then
        ((f_X12_houseHere Γ r35 v0).bind fun r39 =>
        (f_X12_known Γ r35 v0 r39).bind fun r40 =>
        let x41 := r40.1
        f_X12_unit_228 Γ r40.2 v0 v4 x41)
      else
        f_X12_unit_228 Γ r35 v0 v4 s0)
    else
      f_X12_unit_183 Γ r35 v0 v2)
  else
    f_X12_unit_183 Γ r35 v0 v2
def f_X12_unit_154 (Γ : rhG) (M : rhM) (v0 : Nat) (v2 : Int32) (v3 : Int32) (v4 : Int32) (s0 : Nat) (s1 : Int32) (s2 : Int32) (s3 : Int32) : Option (Int32 × rhM) :=
  rhck (Γ.2.2.1 s0 = 15) <|
  rhck (0 ≤ (s1).toInt ∧ (s1).toInt < (Γ.2.2.2 s0 : Nat)) <|
  let M31 := rhsi M s0 (s1 : Int32).toNatClampNeg (s2 + s3)
  if v4 = 0 then
    (rhck (Γ.2.2.1 v0 = 13) <|
    f_X12_unit_169 Γ M31 v0 v2 v3 v4 (M31.1 v0 9))
  else
    f_X12_unit_169 Γ M31 v0 v2 v3 v4 0
def f_X12_unit_126 (Γ : rhG) (M : rhM) (v0 : Nat) (v2 : Int32) (v3 : Int32) (v4 : Int32) : Option (Int32 × rhM) :=
  rhck (Γ.2.2.1 v0 = 13) <|
  (f_X12_isGood Γ M v0).bind fun r24 =>
  if r24 = 0 then
    (some ((1, M)))
  else
    rhck (Γ.2.2.1 (M.2.2 v0 14) = 15) <|
    rhck (0 ≤ (M.1 v0 35).toInt ∧ (M.1 v0 35).toInt < (Γ.2.2.2 (M.2.2 v0 14) : Nat)) <|
    if v2 = 0 then
      (f_X12_unit_154 Γ M v0 v2 v3 v4 (M.2.2 v0 14) (M.1 v0 35) (M.1 (M.2.2 v0 14) (M.1 v0 35).toNatClampNeg) 1)
    else
      f_X12_unit_154 Γ M v0 v2 v3 v4 (M.2.2 v0 14) (M.1 v0 35) (M.1 (M.2.2 v0 14) (M.1 v0 35).toNatClampNeg) 0
def f_X12_unit_56 (Γ : rhG) (M : rhM) (v0 : Nat) (s0 : Int32) : Option (Int32 × rhM) :=
  rhck (Γ.2.2.1 v0 = 13) <|
  (f_X12_stands Γ M v0 (40 : Int32)).bind fun r8 =>
  (f_X12_wordHere Γ M v0).bind fun r9 =>
  if s0 = 0 then
    (if r9 = 0 then
      (if (M.1 v0 8) = 4 then
        (f_X12_unit_91 (f_X12_unit_105 (f_X12_unit_122 (f_X12_unit_126 Γ) Γ) (f_X12_unit_126 Γ) Γ) (f_X12_unit_122 (f_X12_unit_126 Γ) Γ) Γ M v0 s0 r8 r9)
      else
        if r8 = 0 then
          (f_X12_unit_122 (f_X12_unit_126 Γ) Γ M v0 s0 r8 r9)
        else
          f_X12_unit_91 (f_X12_unit_105 (f_X12_unit_122 (f_X12_unit_126 Γ) Γ) (f_X12_unit_126 Γ) Γ) (f_X12_unit_122 (f_X12_unit_126 Γ) Γ) Γ M v0 s0 r8 r9)
    else
      f_X12_unit_91 (f_X12_unit_105 (f_X12_unit_122 (f_X12_unit_126 Γ) Γ) (f_X12_unit_126 Γ) Γ) (f_X12_unit_122 (f_X12_unit_126 Γ) Γ) Γ M v0 s0 r8 r9)
  else
    f_X12_unit_105 (f_X12_unit_122 (f_X12_unit_126 Γ) Γ) (f_X12_unit_126 Γ) Γ M v0 s0 r8 r9
def f_X12_unit_36 (Γ : rhG) (M : rhM) (v0 : Nat) (s0 : Int32) : Option (Int32 × rhM) :=
  if s0 = 0 then
    (f_X12_unit_55 (f_X12_unit_56 Γ) Γ M v0)
  else
    rhck (Γ.2.2.1 v0 = 13) <|
    (f_X12_isWord Γ M v0 ((7237492 : Int64))).bind fun r52 =>
    if r52 = 0 then
      (f_X12_unit_55 (f_X12_unit_56 Γ) Γ M v0)
    else
      f_X12_unit_56 Γ M v0 1
def f_X12_unit_31 (k36 : rhM → Nat → Int32 → Option (Int32 × rhM)) (Γ : rhG) (M : rhM) (v0 : Nat) : Option (Int32 × rhM) :=
  k36 M v0 1
def f_X12_unit (Γ : rhG) (M : rhM) (v0 : Nat) : Option (Int32 × rhM) :=
  rhck (Γ.2.2.1 v0 = 13) <|
  rhck (Γ.2.2.1 (M.2.2 v0 31) = 15) <|
  rhck (0 ≤ ((M.1 v0 38) - 1).toInt ∧ ((M.1 v0 38) - 1).toInt < (Γ.2.2.2 (M.2.2 v0 31) : Nat)) <|
  if 3 < (M.1 (M.2.2 v0 31) ((M.1 v0 38) - 1).toNatClampNeg) then
    (if (M.1 (M.2.2 v0 31) ((M.1 v0 38) - 1).toNatClampNeg) < 7 then
      (f_X12_unit_36 Γ M v0 0)
    else
      f_X12_unit_31 (f_X12_unit_36 Γ) Γ M v0)
  else
    f_X12_unit_31 (f_X12_unit_36 Γ) Γ M v0
set_option maxHeartbeats 4000000 in
set_option maxRecDepth 100000 in
theorem b_X12_unit_55 {E : rhE} {Γ : rhG} {k56 : rhM → Nat → Int32 → Option (Int32 × rhM)} (hk56 : ∀ (M : rhM) (v0 : Nat) (s0 : Int32), rhF E 7 6 yX12_unit cX12_unit (some .boolean) Γ (rhe1I Γ) (k56 M v0 s0) 56 [(0, rhR v0)] [rhI s0] Γ M) : ∀ (M : rhM) (v0 : Nat), rhF E 7 6 yX12_unit cX12_unit (some .boolean) Γ (rhe1I Γ) (f_X12_unit_55 k56 Γ M v0) 55 [(0, rhR v0)] [] Γ M := by
  intro M v0
  rw [f_X12_unit_55]
  refine rhF.iconst (pc := 55) (v := 0) dX12_unit_55 (by decide) ?_
  exact hk56 _ _ _
set_option maxHeartbeats 4000000 in
set_option maxRecDepth 100000 in
theorem b_X12_unit_91 {E : rhE} {Γ : rhG} {k105 : rhM → Nat → Int32 → Int32 → Int32 → Option (Int32 × rhM)} {k122 : rhM → Nat → Int32 → Int32 → Int32 → Option (Int32 × rhM)} (hk105 : ∀ (M : rhM) (v0 : Nat) (v2 : Int32) (v3 : Int32) (v4 : Int32), rhF E 7 6 yX12_unit cX12_unit (some .boolean) Γ (rhe1I Γ) (k105 M v0 v2 v3 v4) 105 [(0, rhR v0), (2, rhI v2), (3, rhI v3), (4, rhI v4)] [] Γ M) (hk122 : ∀ (M : rhM) (v0 : Nat) (v2 : Int32) (v3 : Int32) (v4 : Int32), rhF E 7 6 yX12_unit cX12_unit (some .boolean) Γ (rhe1I Γ) (k122 M v0 v2 v3 v4) 122 [(0, rhR v0), (2, rhI v2), (3, rhI v3), (4, rhI v4)] [] Γ M) : ∀ (M : rhM) (v0 : Nat) (v2 : Int32) (v3 : Int32) (v4 : Int32), rhF E 7 6 yX12_unit cX12_unit (some .boolean) Γ (rhe1I Γ) (f_X12_unit_91 k105 k122 Γ M v0 v2 v3 v4) 91 [(0, rhR v0), (2, rhI v2), (3, rhI v3), (4, rhI v4)] [] Γ M := by
  intro M v0 v2 v3 v4
  rw [f_X12_unit_91]
  refine rhF.aload_n (pc := 91) dX12_unit_91 0 rfl ?_
  refine rhF.ck (fun h13 => ?_)
  refine rhF.get (pc := 92) (rhR _) dX12_unit_92 fl_X12_30 h13 rfl ?_
  refine rhF.aload_n (pc := 95) dX12_unit_95 0 rfl ?_
  refine rhF.get (pc := 96) (rhI _) dX12_unit_96 fl_X12_318 h13 rfl ?_
  refine rhF.ck (fun h14 => ?_)
  refine rhF.ck (fun h15 => ?_)
  refine rhF.iald (pc := 99) dX12_unit_99 h14 h15 ?_
  refine rhF.bipush (pc := 100) (v := 40) dX12_unit_100 (by decide) ?_
  refine rhF.icmp_eq (pc := 102) 122 dX12_unit_102 (by decide) (fun h16 => ?_) (fun h16 => ?_)
  · exact hk122 _ _ _ _ _
  · exact hk105 _ _ _ _ _
set_option maxHeartbeats 4000000 in
set_option maxRecDepth 100000 in
theorem b_X12_unit_113 {E : rhE} {Γ : rhG} {k122 : rhM → Nat → Int32 → Int32 → Int32 → Option (Int32 × rhM)} {k126 : rhM → Nat → Int32 → Int32 → Int32 → Option (Int32 × rhM)} (hk122 : ∀ (M : rhM) (v0 : Nat) (v2 : Int32) (v3 : Int32) (v4 : Int32), rhF E 7 6 yX12_unit cX12_unit (some .boolean) Γ (rhe1I Γ) (k122 M v0 v2 v3 v4) 122 [(0, rhR v0), (2, rhI v2), (3, rhI v3), (4, rhI v4)] [] Γ M) (hk126 : ∀ (M : rhM) (v0 : Nat) (v2 : Int32) (v3 : Int32) (v4 : Int32), rhF E 7 6 yX12_unit cX12_unit (some .boolean) Γ (rhe1I Γ) (k126 M v0 v2 v3 v4) 126 [(0, rhR v0), (2, rhI v2), (3, rhI v3), (4, rhI v4)] [] Γ M) : ∀ (M : rhM) (v0 : Nat) (v2 : Int32) (v3 : Int32) (v4 : Int32), rhF E 7 6 yX12_unit cX12_unit (some .boolean) Γ (rhe1I Γ) (f_X12_unit_113 k122 k126 Γ M v0 v2 v3 v4) 113 [(0, rhR v0), (2, rhI v2), (3, rhI v3), (4, rhI v4)] [] Γ M := by
  intro M v0 v2 v3 v4
  rw [f_X12_unit_113]
  refine rhF.aload_n (pc := 113) dX12_unit_113 0 rfl ?_
  refine rhF.ck (fun h19 => ?_)
  refine rhF.get (pc := 114) (rhI _) dX12_unit_114 fl_X12_388 h19 rfl ?_
  refine rhF.bipush (pc := 117) (v := 7) dX12_unit_117 (by decide) ?_
  refine rhF.icmp_ne (pc := 119) 126 dX12_unit_119 (by decide) (fun h20 => ?_) (fun h20 => ?_)
  · exact hk122 _ _ _ _ _
  · exact hk126 _ _ _ _ _
set_option maxHeartbeats 4000000 in
set_option maxRecDepth 100000 in
theorem b_X12_unit_105 {E : rhE} {Γ : rhG} {k122 : rhM → Nat → Int32 → Int32 → Int32 → Option (Int32 × rhM)} {k126 : rhM → Nat → Int32 → Int32 → Int32 → Option (Int32 × rhM)} (hk122 : ∀ (M : rhM) (v0 : Nat) (v2 : Int32) (v3 : Int32) (v4 : Int32), rhF E 7 6 yX12_unit cX12_unit (some .boolean) Γ (rhe1I Γ) (k122 M v0 v2 v3 v4) 122 [(0, rhR v0), (2, rhI v2), (3, rhI v3), (4, rhI v4)] [] Γ M) (hk126 : ∀ (M : rhM) (v0 : Nat) (v2 : Int32) (v3 : Int32) (v4 : Int32), rhF E 7 6 yX12_unit cX12_unit (some .boolean) Γ (rhe1I Γ) (k126 M v0 v2 v3 v4) 126 [(0, rhR v0), (2, rhI v2), (3, rhI v3), (4, rhI v4)] [] Γ M) : ∀ (M : rhM) (v0 : Nat) (v2 : Int32) (v3 : Int32) (v4 : Int32), rhF E 7 6 yX12_unit cX12_unit (some .boolean) Γ (rhe1I Γ) (f_X12_unit_105 k122 k126 Γ M v0 v2 v3 v4) 105 [(0, rhR v0), (2, rhI v2), (3, rhI v3), (4, rhI v4)] [] Γ M := by
  intro M v0 v2 v3 v4
  rw [f_X12_unit_105]
  refine rhF.iload_n (pc := 105) dX12_unit_105 1 rfl ?_
  refine rhF.if_ne (pc := 106) 113 dX12_unit_106 (by decide) (fun h17 => ?_) (fun h17 => ?_)
  · refine rhF.iload_n (pc := 109) dX12_unit_109 2 rfl ?_
    refine rhF.if_eq (pc := 110) 126 dX12_unit_110 (by decide) (fun h18 => ?_) (fun h18 => ?_)
    · exact hk126 _ _ _ _ _
    · exact (b_X12_unit_113 hk122 hk126) _ _ _ _ _
  · exact (b_X12_unit_113 hk122 hk126) _ _ _ _ _
set_option maxHeartbeats 4000000 in
set_option maxRecDepth 100000 in
theorem b_X12_unit_122 {E : rhE} {Γ : rhG} {k126 : rhM → Nat → Int32 → Int32 → Int32 → Option (Int32 × rhM)} (hk126 : ∀ (M : rhM) (v0 : Nat) (v2 : Int32) (v3 : Int32) (v4 : Int32), rhF E 7 6 yX12_unit cX12_unit (some .boolean) Γ (rhe1I Γ) (k126 M v0 v2 v3 v4) 126 [(0, rhR v0), (2, rhI v2), (3, rhI v3), (4, rhI v4)] [] Γ M) : ∀ (M : rhM) (v0 : Nat) (v2 : Int32) (v3 : Int32) (v4 : Int32), rhF E 7 6 yX12_unit cX12_unit (some .boolean) Γ (rhe1I Γ) (f_X12_unit_122 k126 Γ M v0 v2 v3 v4) 122 [(0, rhR v0), (2, rhI v2), (3, rhI v3), (4, rhI v4)] [] Γ M := by
  intro M v0 v2 v3 v4
  rw [f_X12_unit_122]
  refine rhF.aload_n (pc := 122) dX12_unit_122 0 rfl ?_
  refine rhF.ck (fun h21 => ?_)
  refine rhF.callV (pc := 123) (ci := 12) (embc := rhe1U _) [] dX12_unit_123 ml_X12_301 mv_X12_misplaced ⟨_, rfl, rfl⟩ h21 (c_X12_misplaced _ _ _ _) (by decide) (by decide) rfl (Nat.le_of_ble_eq_true rfl) (fun r22 _ => ?_)
  exact hk126 _ _ _ _ _
set_option maxHeartbeats 4000000 in
set_option maxRecDepth 100000 in
theorem b_X12_unit_241 {E : rhE} {Γ : rhG} : ∀ (M : rhM) (v5 : Int32) (s0 : Nat) (s1 : Int32), rhF E 7 6 yX12_unit cX12_unit (some .boolean) Γ (rhe1I Γ) (f_X12_unit_241 Γ M v5 s0 s1) 241 [(5, rhI v5)] [rhI s1, rhR s0] Γ M := by
  intro M v5 s0 s1
  rw [f_X12_unit_241]
  refine rhF.iload (pc := 241) dX12_unit_241 0 rfl ?_
  refine rhF.ck (fun h43 => ?_)
  refine rhF.callV (pc := 243) (ci := 12) (embc := rhe1U _) [rhI _, rhI _] dX12_unit_243 ml_X12_403 mv_X12_emit ⟨_, rfl, rfl⟩ h43 (c_X12_emit _ _ _ _ _ _) (by decide) (by decide) rfl (Nat.le_of_ble_eq_true rfl) (fun r44 _ => ?_)
  refine rhF.iconst (pc := 246) (v := 0) dX12_unit_246 (by decide) ?_
  exact rhF.zret (pc := 247) dX12_unit_247 rfl rfl rfl
set_option maxHeartbeats 4000000 in
set_option maxRecDepth 100000 in
theorem b_X12_unit_228 {E : rhE} {Γ : rhG} : ∀ (M : rhM) (v0 : Nat) (v4 : Int32) (v5 : Int32), rhF E 7 6 yX12_unit cX12_unit (some .boolean) Γ (rhe1I Γ) (f_X12_unit_228 Γ M v0 v4 v5) 228 [(0, rhR v0), (4, rhI v4), (5, rhI v5)] [] Γ M := by
  intro M v0 v4 v5
  rw [f_X12_unit_228]
  refine rhF.aload_n (pc := 228) dX12_unit_228 0 rfl ?_
  refine rhF.iload (pc := 229) dX12_unit_229 1 rfl ?_
  refine rhF.if_ne (pc := 231) 239 dX12_unit_231 (by decide) (fun h42 => ?_) (fun h42 => ?_)
  · refine rhF.bipush (pc := 234) (v := 110) dX12_unit_234 (by decide) ?_
    refine rhF.goto (pc := 236) 241 dX12_unit_236 (by decide) ?_
    refine rhF.sub [2] rfl ?_
    exact (b_X12_unit_241) _ _ _ _
  · refine rhF.iload (pc := 239) dX12_unit_239 1 rfl ?_
    refine rhF.sub [2] rfl ?_
    exact (b_X12_unit_241) _ _ _ _
set_option maxHeartbeats 4000000 in
set_option maxRecDepth 100000 in
theorem b_X12_unit_194 {E : rhE} {Γ : rhG} : ∀ (M : rhM) (v0 : Nat) (s0 : Nat) (s1 : Int32), rhF E 7 6 yX12_unit cX12_unit (some .boolean) Γ (rhe1I Γ) (f_X12_unit_194 Γ M v0 s0 s1) 194 [(0, rhR v0)] [rhI s1, rhR s0] Γ M := by
  intro M v0 s0 s1
  rw [f_X12_unit_194]
  refine rhF.bipush (pc := 194) (v := 126) dX12_unit_194 (by decide) ?_
  refine rhF.ck (fun h46 => ?_)
  refine rhF.callV (pc := 196) (ci := 12) (embc := rhe1U _) [rhI _, rhI _] dX12_unit_196 ml_X12_391 mv_X12_pushE ⟨_, rfl, rfl⟩ h46 (c_X12_pushE _ _ _ _ _ _) (by decide) (by decide) rfl (Nat.le_of_ble_eq_true rfl) (fun r47 _ => ?_)
  refine rhF.aload_n (pc := 199) dX12_unit_199 0 rfl ?_
  refine rhF.dupr (pc := 200) dX12_unit_200 ?_
  refine rhF.ck (fun h48 => ?_)
  refine rhF.get (pc := 201) (rhI _) dX12_unit_201 fl_X12_388 h48 rfl ?_
  refine rhF.iconst (pc := 204) (v := 1) dX12_unit_204 (by decide) ?_
  refine rhF.iadd (pc := 205) dX12_unit_205 ?_
  refine rhF.puti (pc := 206) dX12_unit_206 fl_X12_388 h48 (fun q hq => by cases hq; exact Or.inl rfl) ⟨rfl, rfl⟩ (fun _ => rfl) ?_
  refine rhF.iconst (pc := 209) (v := 1) dX12_unit_209 (by decide) ?_
  exact rhF.zret (pc := 210) dX12_unit_210 rfl rfl rfl
set_option maxHeartbeats 4000000 in
set_option maxRecDepth 100000 in
theorem b_X12_unit_183 {E : rhE} {Γ : rhG} : ∀ (M : rhM) (v0 : Nat) (v2 : Int32), rhF E 7 6 yX12_unit cX12_unit (some .boolean) Γ (rhe1I Γ) (f_X12_unit_183 Γ M v0 v2) 183 [(0, rhR v0), (2, rhI v2)] [] Γ M := by
  intro M v0 v2
  rw [f_X12_unit_183]
  refine rhF.aload_n (pc := 183) dX12_unit_183 0 rfl ?_
  refine rhF.iload_n (pc := 184) dX12_unit_184 1 rfl ?_
  refine rhF.if_eq (pc := 185) 192 dX12_unit_185 (by decide) (fun h45 => ?_) (fun h45 => ?_)
  · refine rhF.bipush (pc := 192) (v := 7) dX12_unit_192 (by decide) ?_
    refine rhF.sub [0] rfl ?_
    exact (b_X12_unit_194) _ _ _ _
  · refine rhF.iconst (pc := 188) (v := 3) dX12_unit_188 (by decide) ?_
    refine rhF.goto (pc := 189) 194 dX12_unit_189 (by decide) ?_
    refine rhF.sub [0] rfl ?_
    exact (b_X12_unit_194) _ _ _ _
set_option maxHeartbeats 4000000 in
set_option maxRecDepth 100000 in
theorem b_X12_unit_169 {E : rhE} {Γ : rhG} : ∀ (M : rhM) (v0 : Nat) (v2 : Int32) (v3 : Int32) (v4 : Int32) (s0 : Int32), rhF E 7 6 yX12_unit cX12_unit (some .boolean) Γ (rhe1I Γ) (f_X12_unit_169 Γ M v0 v2 v3 v4 s0) 169 [(0, rhR v0), (2, rhI v2), (3, rhI v3), (4, rhI v4)] [rhI s0] Γ M := by
  intro M v0 v2 v3 v4 s0
  rw [f_X12_unit_169]
  refine rhF.istore (pc := 169) (L' := [(5, rhI _), (0, rhR _), (2, rhI _), (3, rhI _), (4, rhI _)]) dX12_unit_169 (by decide) rfl ?_
  refine rhF.aload_n (pc := 171) dX12_unit_171 1 rfl ?_
  refine rhF.ck (fun h34 => ?_)
  refine rhF.callV (pc := 172) (ci := 12) (embc := rhe1U _) [] dX12_unit_172 ml_X12_298 mv_X12_goOn ⟨_, rfl, rfl⟩ h34 (c_X12_goOn _ _ _ _) (by decide) (by decide) rfl (Nat.le_of_ble_eq_true rfl) (fun r35 _ => ?_)
  refine rhF.iload_n (pc := 175) dX12_unit_175 2 rfl ?_
  refine rhF.if_ne (pc := 176) 183 dX12_unit_176 (by decide) (fun h36 => ?_) (fun h36 => ?_)
  · refine rhF.iload_n (pc := 179) dX12_unit_179 3 rfl ?_
    refine rhF.if_eq (pc := 180) 211 dX12_unit_180 (by decide) (fun h37 => ?_) (fun h37 => ?_)
    · refine rhF.iload (pc := 211) dX12_unit_211 4 rfl ?_
      refine rhF.bipush (pc := 213) (v := 104) dX12_unit_213 (by decide) ?_
      refine rhF.icmp_ne (pc := 215) 228 dX12_unit_215 (by decide) (fun h38 => ?_) (fun h38 => ?_)
      · refine rhF.aload_n (pc := 218) dX12_unit_218 1 rfl ?_
        refine rhF.aload_n (pc := 219) dX12_unit_219 1 rfl ?_
        refine rhF.callV (pc := 220) (ci := 12) (embc := rhe0I _ _) [] dX12_unit_220 ml_X12_376 mv_X12_houseHere ⟨_, rfl, rfl⟩ h34 (c_X12_houseHere _ _ _ _) (by decide) (by decide) rfl (Nat.le_of_ble_eq_true rfl) (fun r39 _ => ?_)
        refine rhF.callV (pc := 223) (ci := 12) (embc := rhe1I _) [rhI _] dX12_unit_223 ml_X12_379 mv_X12_known ⟨_, rfl, rfl⟩ h34 (c_X12_known _ _ _ _ _) (by decide) (by decide) rfl (Nat.le_of_ble_eq_true rfl) (fun r40 _ => ?_)
        refine rhF.istore (pc := 226) (L' := [(5, rhI _), (0, rhR _), (2, rhI _), (3, rhI _), (4, rhI _)]) dX12_unit_226 (by decide) rfl ?_
        refine rhF.sub [1, 4, 0] rfl ?_
        exact (b_X12_unit_228) _ _ _ _
      · refine rhF.sub [1, 4, 0] rfl ?_
        exact (b_X12_unit_228) _ _ _ _
    · refine rhF.sub [1, 2] rfl ?_
      exact (b_X12_unit_183) _ _ _
  · refine rhF.sub [1, 2] rfl ?_
    exact (b_X12_unit_183) _ _ _
set_option maxHeartbeats 4000000 in
set_option maxRecDepth 100000 in
theorem b_X12_unit_154 {E : rhE} {Γ : rhG} : ∀ (M : rhM) (v0 : Nat) (v2 : Int32) (v3 : Int32) (v4 : Int32) (s0 : Nat) (s1 : Int32) (s2 : Int32) (s3 : Int32), rhF E 7 6 yX12_unit cX12_unit (some .boolean) Γ (rhe1I Γ) (f_X12_unit_154 Γ M v0 v2 v3 v4 s0 s1 s2 s3) 154 [(0, rhR v0), (2, rhI v2), (3, rhI v3), (4, rhI v4)] [rhI s3, rhI s2, rhI s1, rhR s0] Γ M := by
  intro M v0 v2 v3 v4 s0 s1 s2 s3
  rw [f_X12_unit_154]
  refine rhF.iadd (pc := 154) dX12_unit_154 ?_
  refine rhF.ck (fun h29 => ?_)
  refine rhF.ck (fun h30 => ?_)
  refine rhF.iast (pc := 155) dX12_unit_155 h29 h30 ?_
  refine rhF.iload (pc := 156) dX12_unit_156 3 rfl ?_
  refine rhF.if_ne (pc := 158) 168 dX12_unit_158 (by decide) (fun h32 => ?_) (fun h32 => ?_)
  · refine rhF.aload_n (pc := 161) dX12_unit_161 0 rfl ?_
    refine rhF.ck (fun h33 => ?_)
    refine rhF.get (pc := 162) (rhI _) dX12_unit_162 fl_X12_284 h33 rfl ?_
    refine rhF.goto (pc := 165) 169 dX12_unit_165 (by decide) ?_
    exact (b_X12_unit_169) _ _ _ _ _ _
  · refine rhF.iconst (pc := 168) (v := 0) dX12_unit_168 (by decide) ?_
    exact (b_X12_unit_169) _ _ _ _ _ _
set_option maxHeartbeats 4000000 in
set_option maxRecDepth 100000 in
theorem b_X12_unit_126 {E : rhE} {Γ : rhG} : ∀ (M : rhM) (v0 : Nat) (v2 : Int32) (v3 : Int32) (v4 : Int32), rhF E 7 6 yX12_unit cX12_unit (some .boolean) Γ (rhe1I Γ) (f_X12_unit_126 Γ M v0 v2 v3 v4) 126 [(0, rhR v0), (2, rhI v2), (3, rhI v3), (4, rhI v4)] [] Γ M := by
  intro M v0 v2 v3 v4
  rw [f_X12_unit_126]
  refine rhF.aload_n (pc := 126) dX12_unit_126 0 rfl ?_
  refine rhF.ck (fun h23 => ?_)
  refine rhF.callV (pc := 127) (ci := 12) (embc := rhe0I _ _) [] dX12_unit_127 ml_X12_294 mv_X12_isGood ⟨_, rfl, rfl⟩ h23 (c_X12_isGood _ _ _ _) (by decide) (by decide) rfl (Nat.le_of_ble_eq_true rfl) (fun r24 _ => ?_)
  refine rhF.if_ne (pc := 130) 135 dX12_unit_130 (by decide) (fun h25 => ?_) (fun h25 => ?_)
  · refine rhF.iconst (pc := 133) (v := 1) dX12_unit_133 (by decide) ?_
    exact rhF.zret (pc := 134) dX12_unit_134 rfl rfl rfl
  · refine rhF.aload_n (pc := 135) dX12_unit_135 0 rfl ?_
    refine rhF.get (pc := 136) (rhR _) dX12_unit_136 fl_X12_30 h23 rfl ?_
    refine rhF.aload_n (pc := 139) dX12_unit_139 0 rfl ?_
    refine rhF.get (pc := 140) (rhI _) dX12_unit_140 fl_X12_318 h23 rfl ?_
    refine rhF.dup2ri (pc := 143) dX12_unit_143 ?_
    refine rhF.ck (fun h26 => ?_)
    refine rhF.ck (fun h27 => ?_)
    refine rhF.iald (pc := 144) dX12_unit_144 h26 h27 ?_
    refine rhF.iload_n (pc := 145) dX12_unit_145 1 rfl ?_
    refine rhF.if_eq (pc := 146) 153 dX12_unit_146 (by decide) (fun h28 => ?_) (fun h28 => ?_)
    · refine rhF.iconst (pc := 153) (v := 1) dX12_unit_153 (by decide) ?_
      exact (b_X12_unit_154) _ _ _ _ _ _ _ _ _
    · refine rhF.iconst (pc := 149) (v := 0) dX12_unit_149 (by decide) ?_
      refine rhF.goto (pc := 150) 154 dX12_unit_150 (by decide) ?_
      exact (b_X12_unit_154) _ _ _ _ _ _ _ _ _
set_option maxHeartbeats 4000000 in
set_option maxRecDepth 100000 in
theorem b_X12_unit_56 {E : rhE} {Γ : rhG} : ∀ (M : rhM) (v0 : Nat) (s0 : Int32), rhF E 7 6 yX12_unit cX12_unit (some .boolean) Γ (rhe1I Γ) (f_X12_unit_56 Γ M v0 s0) 56 [(0, rhR v0)] [rhI s0] Γ M := by
  intro M v0 s0
  rw [f_X12_unit_56]
  refine rhF.istore_n (pc := 56) (L' := [(2, rhI _), (0, rhR _)]) dX12_unit_56 (by decide) rfl ?_
  refine rhF.aload_n (pc := 57) dX12_unit_57 1 rfl ?_
  refine rhF.bipush (pc := 58) (v := 40) dX12_unit_58 (by decide) ?_
  refine rhF.ck (fun h7 => ?_)
  refine rhF.callV (pc := 60) (ci := 12) (embc := rhe0I _ _) [rhI _] dX12_unit_60 ml_X12_315 mv_X12_stands ⟨_, rfl, rfl⟩ h7 (c_X12_stands _ _ _ _ _) (by decide) (by decide) rfl (Nat.le_of_ble_eq_true rfl) (fun r8 _ => ?_)
  refine rhF.istore_n (pc := 63) (L' := [(3, rhI _), (2, rhI _), (0, rhR _)]) dX12_unit_63 (by decide) rfl ?_
  refine rhF.aload_n (pc := 64) dX12_unit_64 2 rfl ?_
  refine rhF.callV (pc := 65) (ci := 12) (embc := rhe0I _ _) [] dX12_unit_65 ml_X12_400 mv_X12_wordHere ⟨_, rfl, rfl⟩ h7 (c_X12_wordHere _ _ _ _) (by decide) (by decide) rfl (Nat.le_of_ble_eq_true rfl) (fun r9 _ => ?_)
  refine rhF.istore (pc := 68) (L' := [(4, rhI _), (3, rhI _), (2, rhI _), (0, rhR _)]) dX12_unit_68 (by decide) rfl ?_
  refine rhF.iload_n (pc := 70) dX12_unit_70 2 rfl ?_
  refine rhF.if_ne (pc := 71) 105 dX12_unit_71 (by decide) (fun h10 => ?_) (fun h10 => ?_)
  · refine rhF.iload (pc := 74) dX12_unit_74 0 rfl ?_
    refine rhF.if_ne (pc := 76) 91 dX12_unit_76 (by decide) (fun h11 => ?_) (fun h11 => ?_)
    · refine rhF.aload_n (pc := 79) dX12_unit_79 3 rfl ?_
      refine rhF.get (pc := 80) (rhI _) dX12_unit_80 fl_X12_266 h7 rfl ?_
      refine rhF.iconst (pc := 83) (v := 4) dX12_unit_83 (by decide) ?_
      refine rhF.icmp_eq (pc := 84) 91 dX12_unit_84 (by decide) (fun h12 => ?_) (fun h12 => ?_)
      · refine rhF.sub [3, 2, 1, 0] rfl ?_
        exact (b_X12_unit_91 (b_X12_unit_105 (b_X12_unit_122 (b_X12_unit_126)) (b_X12_unit_126)) (b_X12_unit_122 (b_X12_unit_126))) _ _ _ _ _
      · refine rhF.iload_n (pc := 87) dX12_unit_87 1 rfl ?_
        refine rhF.if_eq (pc := 88) 122 dX12_unit_88 (by decide) (fun h50 => ?_) (fun h50 => ?_)
        · refine rhF.sub [3, 2, 1, 0] rfl ?_
          exact (b_X12_unit_122 (b_X12_unit_126)) _ _ _ _ _
        · refine rhF.sub [3, 2, 1, 0] rfl ?_
          exact (b_X12_unit_91 (b_X12_unit_105 (b_X12_unit_122 (b_X12_unit_126)) (b_X12_unit_126)) (b_X12_unit_122 (b_X12_unit_126))) _ _ _ _ _
    · refine rhF.sub [3, 2, 1, 0] rfl ?_
      exact (b_X12_unit_91 (b_X12_unit_105 (b_X12_unit_122 (b_X12_unit_126)) (b_X12_unit_126)) (b_X12_unit_122 (b_X12_unit_126))) _ _ _ _ _
  · refine rhF.sub [3, 2, 1, 0] rfl ?_
    exact (b_X12_unit_105 (b_X12_unit_122 (b_X12_unit_126)) (b_X12_unit_126)) _ _ _ _ _
set_option maxHeartbeats 4000000 in
set_option maxRecDepth 100000 in
theorem b_X12_unit_36 {E : rhE} {Γ : rhG} : ∀ (M : rhM) (v0 : Nat) (s0 : Int32), rhF E 7 6 yX12_unit cX12_unit (some .boolean) Γ (rhe1I Γ) (f_X12_unit_36 Γ M v0 s0) 36 [(0, rhR v0)] [rhI s0] Γ M := by
  intro M v0 s0
  rw [f_X12_unit_36]
  refine rhF.istore_n (pc := 36) (L' := [(1, rhI _), (0, rhR _)]) dX12_unit_36 (by decide) rfl ?_
  refine rhF.iload_n (pc := 37) dX12_unit_37 0 rfl ?_
  refine rhF.if_eq (pc := 38) 55 dX12_unit_38 (by decide) (fun h6 => ?_) (fun h6 => ?_)
  · refine rhF.sub [1] rfl ?_
    exact (b_X12_unit_55 (b_X12_unit_56)) _ _
  · refine rhF.aload_n (pc := 41) dX12_unit_41 1 rfl ?_
    refine rhF.ldc2 (pc := 42) dX12_unit_42 k_X12_254 ?_
    refine rhF.ck (fun h51 => ?_)
    refine rhF.callV (pc := 45) (ci := 12) (embc := rhe0I _ _) [rhJ _] dX12_unit_45 ml_X12_304 mv_X12_isWord ⟨_, rfl, rfl⟩ h51 (c_X12_isWord _ _ _ _ _) (by decide) (by decide) rfl (Nat.le_of_ble_eq_true rfl) (fun r52 _ => ?_)
    refine rhF.if_eq (pc := 48) 55 dX12_unit_48 (by decide) (fun h53 => ?_) (fun h53 => ?_)
    · refine rhF.sub [1] rfl ?_
      exact (b_X12_unit_55 (b_X12_unit_56)) _ _
    · refine rhF.iconst (pc := 51) (v := 1) dX12_unit_51 (by decide) ?_
      refine rhF.goto (pc := 52) 56 dX12_unit_52 (by decide) ?_
      refine rhF.sub [1] rfl ?_
      exact (b_X12_unit_56) _ _ _
set_option maxHeartbeats 4000000 in
set_option maxRecDepth 100000 in
theorem b_X12_unit_31 {E : rhE} {Γ : rhG} {k36 : rhM → Nat → Int32 → Option (Int32 × rhM)} (hk36 : ∀ (M : rhM) (v0 : Nat) (s0 : Int32), rhF E 7 6 yX12_unit cX12_unit (some .boolean) Γ (rhe1I Γ) (k36 M v0 s0) 36 [(0, rhR v0)] [rhI s0] Γ M) : ∀ (M : rhM) (v0 : Nat), rhF E 7 6 yX12_unit cX12_unit (some .boolean) Γ (rhe1I Γ) (f_X12_unit_31 k36 Γ M v0) 31 [(0, rhR v0)] [] Γ M := by
  intro M v0
  rw [f_X12_unit_31]
  refine rhF.iconst (pc := 31) (v := 1) dX12_unit_31 (by decide) ?_
  refine rhF.goto (pc := 32) 36 dX12_unit_32 (by decide) ?_
  exact hk36 _ _ _
set_option maxHeartbeats 4000000 in
set_option maxRecDepth 100000 in
theorem b_X12_unit {E : rhE} {Γ : rhG} : ∀ (M : rhM) (v0 : Nat), rhF E 7 6 yX12_unit cX12_unit (some .boolean) Γ (rhe1I Γ) (f_X12_unit Γ M v0) 0 [(0, rhR v0)] [] Γ M := by
  intro M v0
  rw [f_X12_unit]
  refine rhF.aload_n (pc := 0) dX12_unit_0 0 rfl ?_
  refine rhF.ck (fun h1 => ?_)
  refine rhF.get (pc := 1) (rhR _) dX12_unit_1 fl_X12_83 h1 rfl ?_
  refine rhF.aload_n (pc := 4) dX12_unit_4 0 rfl ?_
  refine rhF.get (pc := 5) (rhI _) dX12_unit_5 fl_X12_385 h1 rfl ?_
  refine rhF.iconst (pc := 8) (v := 1) dX12_unit_8 (by decide) ?_
  refine rhF.isub (pc := 9) dX12_unit_9 ?_
  refine rhF.ck (fun h2 => ?_)
  refine rhF.ck (fun h3 => ?_)
  refine rhF.iald (pc := 10) dX12_unit_10 h2 h3 ?_
  refine rhF.iconst (pc := 11) (v := 3) dX12_unit_11 (by decide) ?_
  refine rhF.icmp_le (pc := 12) 31 dX12_unit_12 (by decide) (fun h4 => ?_) (fun h4 => ?_)
  · refine rhF.aload_n (pc := 15) dX12_unit_15 0 rfl ?_
    refine rhF.get (pc := 16) (rhR _) dX12_unit_16 fl_X12_83 h1 rfl ?_
    refine rhF.aload_n (pc := 19) dX12_unit_19 0 rfl ?_
    refine rhF.get (pc := 20) (rhI _) dX12_unit_20 fl_X12_385 h1 rfl ?_
    refine rhF.iconst (pc := 23) (v := 1) dX12_unit_23 (by decide) ?_
    refine rhF.isub (pc := 24) dX12_unit_24 ?_
    refine rhF.iald (pc := 25) dX12_unit_25 h2 h3 ?_
    refine rhF.bipush (pc := 26) (v := 7) dX12_unit_26 (by decide) ?_
    refine rhF.icmp_lt (pc := 28) 35 dX12_unit_28 (by decide) (fun h5 => ?_) (fun h5 => ?_)
    · refine rhF.iconst (pc := 35) (v := 0) dX12_unit_35 (by decide) ?_
      exact (b_X12_unit_36) _ _ _
    · exact (b_X12_unit_31 (b_X12_unit_36)) _ _
  · exact (b_X12_unit_31 (b_X12_unit_36)) _ _
theorem c_X12_unit (E : rhE) (Γ : rhG) (M : rhM) (v0 : Nat) : ∀ a, f_X12_unit Γ M v0 = some a → rhC E 7 yX12_unit cX12_unit 6 (some .boolean) [rhR v0] Γ M ((rhe1I Γ) a) := rhF.met (by decide +kernel) (Nat.le_of_ble_eq_true rfl) (b_X12_unit M v0)
def f_X12_e_48 (k19 : rhM → Nat → Int32 → Option (rhM)) (Γ : rhG) (M : rhM) (v0 : Nat) (s0 : Int32) : Option (rhM) :=
  k19 M v0 s0
def f_X12_e_19 (Γ : rhG) : Nat → rhM → Nat → Int32 → Option (rhM)
  | 0, _, _, _ => none
  | n + 1, M, v0, v1 =>
    rhck (Γ.2.2.1 v0 = 13) <|
    (f_X12_isGood Γ M v0).bind fun r6 =>
    if r6 = 0 then
      (some M)
    else
      if 0 < (M.1 v0 38) then
        (if v1 = 0 then
          ((f_X12_behindUnit Γ M v0).bind fun r10 =>
          f_X12_e_48 (f_X12_e_19 Γ n) Γ r10.2 v0 r10.1)
        else
          (f_X12_unit Γ M v0).bind fun r11 =>
          f_X12_e_48 (f_X12_e_19 Γ n) Γ r11.2 v0 r11.1)
      else
        some M
def f_X12_e (Γ : rhG) (M : rhM) (v0 : Nat) : Option (rhM) :=
  rhck (Γ.2.2.1 v0 = 13) <|
  let M2 := rhsi M v0 38 0
  let M3 := rhsi M2 v0 37 0
  (f_X12_pushE Γ M3 v0 (8 : Int32) (0 : Int32)).bind fun r4 =>
  f_X12_e_19 Γ rhFU r4 v0 1
set_option maxHeartbeats 4000000 in
set_option maxRecDepth 100000 in
theorem b_X12_e_48 {E : rhE} {Γ : rhG} {k19 : rhM → Nat → Int32 → Option (rhM)} (hk19 : ∀ (M : rhM) (v0 : Nat) (v1 : Int32), rhF E 8 2 yX12_e cX12_e none Γ (rhe1U Γ) (k19 M v0 v1) 19 [(0, rhR v0), (1, rhI v1)] [] Γ M) : ∀ (M : rhM) (v0 : Nat) (s0 : Int32), rhF E 8 2 yX12_e cX12_e none Γ (rhe1U Γ) (f_X12_e_48 k19 Γ M v0 s0) 48 [(0, rhR v0)] [rhI s0] Γ M := by
  intro M v0 s0
  rw [f_X12_e_48]
  refine rhF.istore_n (pc := 48) (L' := [(1, rhI _), (0, rhR _)]) dX12_e_48 (by decide) rfl ?_
  refine rhF.goto (pc := 49) 19 dX12_e_49 (by decide) ?_
  refine rhF.sub [1, 0] rfl ?_
  exact hk19 _ _ _
set_option maxHeartbeats 4000000 in
set_option maxRecDepth 100000 in
theorem b_X12_e_19 {E : rhE} {Γ : rhG} : ∀ (n : Nat) (M : rhM) (v0 : Nat) (v1 : Int32), rhF E 8 2 yX12_e cX12_e none Γ (rhe1U Γ) (f_X12_e_19 Γ n M v0 v1) 19 [(0, rhR v0), (1, rhI v1)] [] Γ M := by
  intro n
  induction n with
  | zero => intro M v0 v1; rw [f_X12_e_19]; exact rhF.nope
  | succ n ih =>
    intro M v0 v1
    rw [f_X12_e_19]
    refine rhF.aload_n (pc := 19) dX12_e_19 0 rfl ?_
    refine rhF.ck (fun h5 => ?_)
    refine rhF.callV (pc := 20) (ci := 12) (embc := rhe0I _ _) [] dX12_e_20 ml_X12_294 mv_X12_isGood ⟨_, rfl, rfl⟩ h5 (c_X12_isGood _ _ _ _) (by decide) (by decide) rfl (Nat.le_of_ble_eq_true rfl) (fun r6 _ => ?_)
    refine rhF.if_eq (pc := 23) 52 dX12_e_23 (by decide) (fun h7 => ?_) (fun h7 => ?_)
    · exact rhF.vret (pc := 52) dX12_e_52 rfl rfl
    · refine rhF.aload_n (pc := 26) dX12_e_26 0 rfl ?_
      refine rhF.get (pc := 27) (rhI _) dX12_e_27 fl_X12_385 h5 rfl ?_
      refine rhF.if_le (pc := 30) 52 dX12_e_30 (by decide) (fun h8 => ?_) (fun h8 => ?_)
      · refine rhF.iload_n (pc := 33) dX12_e_33 1 rfl ?_
        refine rhF.if_eq (pc := 34) 44 dX12_e_34 (by decide) (fun h9 => ?_) (fun h9 => ?_)
        · refine rhF.aload_n (pc := 44) dX12_e_44 0 rfl ?_
          refine rhF.callV (pc := 45) (ci := 12) (embc := rhe1I _) [] dX12_e_45 ml_X12_397 mv_X12_behindUnit ⟨_, rfl, rfl⟩ h5 (c_X12_behindUnit _ _ _ _) (by decide) (by decide) rfl (Nat.le_of_ble_eq_true rfl) (fun r10 _ => ?_)
          refine rhF.sub [0] rfl ?_
          exact (b_X12_e_48 ih) _ _ _
        · refine rhF.aload_n (pc := 37) dX12_e_37 0 rfl ?_
          refine rhF.callV (pc := 38) (ci := 12) (embc := rhe1I _) [] dX12_e_38 ml_X12_394 mv_X12_unit ⟨_, rfl, rfl⟩ h5 (c_X12_unit _ _ _ _) (by decide) (by decide) rfl (Nat.le_of_ble_eq_true rfl) (fun r11 _ => ?_)
          refine rhF.goto (pc := 41) 48 dX12_e_41 (by decide) ?_
          refine rhF.sub [0] rfl ?_
          exact (b_X12_e_48 ih) _ _ _
      · exact rhF.vret (pc := 52) dX12_e_52 rfl rfl
set_option maxHeartbeats 4000000 in
set_option maxRecDepth 100000 in
theorem b_X12_e {E : rhE} {Γ : rhG} : ∀ (M : rhM) (v0 : Nat), rhF E 8 2 yX12_e cX12_e none Γ (rhe1U Γ) (f_X12_e Γ M v0) 0 [(0, rhR v0)] [] Γ M := by
  intro M v0
  rw [f_X12_e]
  refine rhF.aload_n (pc := 0) dX12_e_0 0 rfl ?_
  refine rhF.iconst (pc := 1) (v := 0) dX12_e_1 (by decide) ?_
  refine rhF.ck (fun h1 => ?_)
  refine rhF.puti (pc := 2) dX12_e_2 fl_X12_385 h1 (fun q hq => by cases hq; exact Or.inl rfl) ⟨rfl, rfl⟩ (fun _ => rfl) ?_
  refine rhF.aload_n (pc := 5) dX12_e_5 0 rfl ?_
  refine rhF.iconst (pc := 6) (v := 0) dX12_e_6 (by decide) ?_
  refine rhF.puti (pc := 7) dX12_e_7 fl_X12_388 h1 (fun q hq => by cases hq; exact Or.inl rfl) ⟨rfl, rfl⟩ (fun _ => rfl) ?_
  refine rhF.aload_n (pc := 10) dX12_e_10 0 rfl ?_
  refine rhF.bipush (pc := 11) (v := 8) dX12_e_11 (by decide) ?_
  refine rhF.iconst (pc := 13) (v := 0) dX12_e_13 (by decide) ?_
  refine rhF.callV (pc := 14) (ci := 12) (embc := rhe1U _) [rhI _, rhI _] dX12_e_14 ml_X12_391 mv_X12_pushE ⟨_, rfl, rfl⟩ h1 (c_X12_pushE _ _ _ _ _ _) (by decide) (by decide) rfl (Nat.le_of_ble_eq_true rfl) (fun r4 _ => ?_)
  refine rhF.iconst (pc := 17) (v := 1) dX12_e_17 (by decide) ?_
  refine rhF.istore_n (pc := 18) (L' := [(1, rhI _), (0, rhR _)]) dX12_e_18 (by decide) rfl ?_
  refine rhF.sub [1, 0] rfl ?_
  exact (b_X12_e_19 rhFU) _ _ _
theorem c_X12_e (E : rhE) (Γ : rhG) (M : rhM) (v0 : Nat) : ∀ a, f_X12_e Γ M v0 = some a → rhC E 8 yX12_e cX12_e 2 none [rhR v0] Γ M ((rhe1U Γ) a) := rhF.met (by decide +kernel) (Nat.le_of_ble_eq_true rfl) (b_X12_e M v0)
def f_X12_end (Γ : rhG) (M : rhM) (v0 : Nat) (v1 : Int32) : Option (Int32 × rhM) :=
  if v1 < 0 then
    (some (((-1), M)))
  else
    rhck (Γ.2.2.1 v0 = 13) <|
    if (M.1 v0 2) < v1 then
      (some (((-1), M)))
    else
      let M4 := rhsi M v0 2 v1
      some ((v1, M4))
set_option maxHeartbeats 4000000 in
set_option maxRecDepth 100000 in
theorem b_X12_end {E : rhE} {Γ : rhG} : ∀ (M : rhM) (v0 : Nat) (v1 : Int32), rhF E 1 2 yX12_end cX12_end (some .int) Γ (rhe1I Γ) (f_X12_end Γ M v0 v1) 0 [(0, rhR v0), (1, rhI v1)] [] Γ M := by
  intro M v0 v1
  rw [f_X12_end]
  refine rhF.iload_n (pc := 0) dX12_end_0 1 rfl ?_
  refine rhF.if_lt (pc := 1) 12 dX12_end_1 (by decide) (fun h1 => ?_) (fun h1 => ?_)
  · refine rhF.iconst (pc := 12) (v := (-1)) dX12_end_12 (by decide) ?_
    exact rhF.zret (pc := 13) dX12_end_13 rfl rfl rfl
  · refine rhF.iload_n (pc := 4) dX12_end_4 1 rfl ?_
    refine rhF.aload_n (pc := 5) dX12_end_5 0 rfl ?_
    refine rhF.ck (fun h2 => ?_)
    refine rhF.get (pc := 6) (rhI _) dX12_end_6 fl_X12_324 h2 rfl ?_
    refine rhF.icmp_le (pc := 9) 14 dX12_end_9 (by decide) (fun h3 => ?_) (fun h3 => ?_)
    · refine rhF.iconst (pc := 12) (v := (-1)) dX12_end_12 (by decide) ?_
      exact rhF.zret (pc := 13) dX12_end_13 rfl rfl rfl
    · refine rhF.aload_n (pc := 14) dX12_end_14 0 rfl ?_
      refine rhF.iload_n (pc := 15) dX12_end_15 1 rfl ?_
      refine rhF.puti (pc := 16) dX12_end_16 fl_X12_324 h2 (fun q hq => by cases hq; exact Or.inl rfl) ⟨rfl, rfl⟩ (fun _ => rfl) ?_
      refine rhF.iload_n (pc := 19) dX12_end_19 1 rfl ?_
      exact rhF.zret (pc := 20) dX12_end_20 rfl rfl rfl
theorem c_X12_end (E : rhE) (Γ : rhG) (M : rhM) (v0 : Nat) (v1 : Int32) : ∀ a, f_X12_end Γ M v0 v1 = some a → rhC E 1 yX12_end cX12_end 2 (some .int) [rhR v0, rhI v1] Γ M ((rhe1I Γ) a) := rhF.met (by decide +kernel) (Nat.le_of_ble_eq_true rfl) (b_X12_end M v0 v1)
def f_X12_fault (Γ : rhG) (M : rhM) (v0 : Nat) (v1 : Int32) : Option (Int32) :=
  if v1 = 0 then
    (rhck (Γ.2.2.1 v0 = 13) <|
    some (M.1 v0 4))
  else
    if v1 = 1 then
      (rhck (Γ.2.2.1 v0 = 13) <|
      some (M.1 v0 5))
    else
      some ((-1))
set_option maxHeartbeats 4000000 in
set_option maxRecDepth 100000 in
theorem b_X12_fault {E : rhE} {Γ : rhG} {M : rhM} : ∀ (v0 : Nat) (v1 : Int32), rhF E 1 2 yX12_fault cX12_fault (some .int) Γ (rhe0I Γ M) (f_X12_fault Γ M v0 v1) 0 [(0, rhR v0), (1, rhI v1)] [] Γ M := by
  intro v0 v1
  rw [f_X12_fault]
  refine rhF.iload_n (pc := 0) dX12_fault_0 1 rfl ?_
  refine rhF.if_ne (pc := 1) 11 dX12_fault_1 (by decide) (fun h1 => ?_) (fun h1 => ?_)
  · refine rhF.aload_n (pc := 4) dX12_fault_4 0 rfl ?_
    refine rhF.ck (fun h2 => ?_)
    refine rhF.get (pc := 5) (rhI _) dX12_fault_5 fl_X12_217 h2 rfl ?_
    refine rhF.goto (pc := 8) 24 dX12_fault_8 (by decide) ?_
    exact rhF.zret (pc := 24) dX12_fault_24 rfl rfl rfl
  · refine rhF.iload_n (pc := 11) dX12_fault_11 1 rfl ?_
    refine rhF.iconst (pc := 12) (v := 1) dX12_fault_12 (by decide) ?_
    refine rhF.icmp_ne (pc := 13) 23 dX12_fault_13 (by decide) (fun h3 => ?_) (fun h3 => ?_)
    · refine rhF.aload_n (pc := 16) dX12_fault_16 0 rfl ?_
      refine rhF.ck (fun h4 => ?_)
      refine rhF.get (pc := 17) (rhI _) dX12_fault_17 fl_X12_16 h4 rfl ?_
      refine rhF.goto (pc := 20) 24 dX12_fault_20 (by decide) ?_
      exact rhF.zret (pc := 24) dX12_fault_24 rfl rfl rfl
    · refine rhF.iconst (pc := 23) (v := (-1)) dX12_fault_23 (by decide) ?_
      exact rhF.zret (pc := 24) dX12_fault_24 rfl rfl rfl
theorem c_X12_fault (E : rhE) (Γ : rhG) (M : rhM) (v0 : Nat) (v1 : Int32) : ∀ a, f_X12_fault Γ M v0 v1 = some a → rhC E 1 yX12_fault cX12_fault 2 (some .int) [rhR v0, rhI v1] Γ M ((rhe0I Γ M) a) := rhF.met (by decide +kernel) (Nat.le_of_ble_eq_true rfl) (b_X12_fault v0 v1)
def f_X12_feed_71 (k18 : rhM → Nat → Int32 → Int32 → Int32 → Int32 → Int32 → Int32 → Option (Int32 × rhM)) (Γ : rhG) (M : rhM) (v0 : Nat) (v1 : Int32) (v2 : Int32) (v3 : Int32) (v4 : Int32) (v5 : Int32) (v6 : Int32) (s0 : Int32) : Option (Int32 × rhM) :=
  rhck (Γ.2.2.1 v0 = 13) <|
  rhck (Γ.2.2.1 (M.2.2 v0 0) = 14) <|
  rhck (0 ≤ ((M.1 v0 2) + v6).toInt ∧ ((M.1 v0 2) + v6).toInt < (Γ.2.2.2 (M.2.2 v0 0) : Nat)) <|
  let M8 := rhsi M (M.2.2 v0 0) ((M.1 v0 2) + v6 : Int32).toNatClampNeg (vp_nar .byte ((s0 >>> ((24 - (8 * (v6 &&& 3))) &&& 31)).toInt8.toInt32))
  let x9 : Int32 := v6 + 1
  k18 M8 v0 v1 v2 v3 v4 v5 x9
def f_X12_feed_18 (k105 : rhM → Nat → Option (Int32 × rhM)) (Γ : rhG) : Nat → rhM → Nat → Int32 → Int32 → Int32 → Int32 → Int32 → Int32 → Option (Int32 × rhM)
  | 0, _, _, _, _, _, _, _, _ => none
  | n + 1, M, v0, v1, v2, v3, v4, v5, v6 =>
    if v6 < 20 then
      (if v6 < 4 then
        (f_X12_feed_71 (f_X12_feed_18 k105 Γ n) Γ M v0 v1 v2 v3 v4 v5 v6 v1)
      else
        if v6 < 8 then
          (f_X12_feed_71 (f_X12_feed_18 k105 Γ n) Γ M v0 v1 v2 v3 v4 v5 v6 v2)
        else
          if v6 < 12 then
            (f_X12_feed_71 (f_X12_feed_18 k105 Γ n) Γ M v0 v1 v2 v3 v4 v5 v6 v3)
          else
            if v6 < 16 then
              (f_X12_feed_71 (f_X12_feed_18 k105 Γ n) Γ M v0 v1 v2 v3 v4 v5 v6 v4)
            else
              f_X12_feed_71 (f_X12_feed_18 k105 Γ n) Γ M v0 v1 v2 v3 v4 v5 v6 v5)
    else
      k105 M v0
def f_X12_feed_105 (Γ : rhG) (M : rhM) (v0 : Nat) : Option (Int32 × rhM) :=
  rhck (Γ.2.2.1 v0 = 13) <|
  let M14 := rhsi M v0 2 ((M.1 v0 2) + 20)
  some ((M14.1 v0 2, M14))
def f_X12_feed (Γ : rhG) (M : rhM) (v0 : Nat) (v1 : Int32) (v2 : Int32) (v3 : Int32) (v4 : Int32) (v5 : Int32) : Option (Int32 × rhM) :=
  rhck (Γ.2.2.1 v0 = 13) <|
  if 1600 < ((M.1 v0 2) + 20) then
    (some (((-1), M)))
  else
    f_X12_feed_18 (f_X12_feed_105 Γ) Γ rhFU M v0 v1 v2 v3 v4 v5 0
set_option maxHeartbeats 4000000 in
set_option maxRecDepth 100000 in
theorem b_X12_feed_71 {E : rhE} {Γ : rhG} {k18 : rhM → Nat → Int32 → Int32 → Int32 → Int32 → Int32 → Int32 → Option (Int32 × rhM)} (hk18 : ∀ (M : rhM) (v0 : Nat) (v1 : Int32) (v2 : Int32) (v3 : Int32) (v4 : Int32) (v5 : Int32) (v6 : Int32), rhF E 1 8 yX12_feed cX12_feed (some .int) Γ (rhe1I Γ) (k18 M v0 v1 v2 v3 v4 v5 v6) 18 [(0, rhR v0), (1, rhI v1), (2, rhI v2), (3, rhI v3), (4, rhI v4), (5, rhI v5), (6, rhI v6)] [] Γ M) : ∀ (M : rhM) (v0 : Nat) (v1 : Int32) (v2 : Int32) (v3 : Int32) (v4 : Int32) (v5 : Int32) (v6 : Int32) (s0 : Int32), rhF E 1 8 yX12_feed cX12_feed (some .int) Γ (rhe1I Γ) (f_X12_feed_71 k18 Γ M v0 v1 v2 v3 v4 v5 v6 s0) 71 [(0, rhR v0), (1, rhI v1), (2, rhI v2), (3, rhI v3), (4, rhI v4), (5, rhI v5), (6, rhI v6)] [rhI s0] Γ M := by
  intro M v0 v1 v2 v3 v4 v5 v6 s0
  rw [f_X12_feed_71]
  refine rhF.istore (pc := 71) (L' := [(7, rhI _), (0, rhR _), (1, rhI _), (2, rhI _), (3, rhI _), (4, rhI _), (5, rhI _), (6, rhI _)]) dX12_feed_71 (by decide) rfl ?_
  refine rhF.aload_n (pc := 73) dX12_feed_73 1 rfl ?_
  refine rhF.ck (fun h5 => ?_)
  refine rhF.get (pc := 74) (rhR _) dX12_feed_74 fl_X12_7 h5 rfl ?_
  refine rhF.aload_n (pc := 77) dX12_feed_77 1 rfl ?_
  refine rhF.get (pc := 78) (rhI _) dX12_feed_78 fl_X12_324 h5 rfl ?_
  refine rhF.iload (pc := 81) dX12_feed_81 7 rfl ?_
  refine rhF.iadd (pc := 83) dX12_feed_83 ?_
  refine rhF.iload (pc := 84) dX12_feed_84 0 rfl ?_
  refine rhF.bipush (pc := 86) (v := 24) dX12_feed_86 (by decide) ?_
  refine rhF.bipush (pc := 88) (v := 8) dX12_feed_88 (by decide) ?_
  refine rhF.iload (pc := 90) dX12_feed_90 7 rfl ?_
  refine rhF.iconst (pc := 92) (v := 3) dX12_feed_92 (by decide) ?_
  refine rhF.iand (pc := 93) dX12_feed_93 ?_
  refine rhF.imul (pc := 94) dX12_feed_94 ?_
  refine rhF.isub (pc := 95) dX12_feed_95 ?_
  refine rhF.ishr (pc := 96) dX12_feed_96 ?_
  refine rhF.i2b (pc := 97) dX12_feed_97 ?_
  refine rhF.ck (fun h6 => ?_)
  refine rhF.ck (fun h7 => ?_)
  refine rhF.bast (pc := 98) dX12_feed_98 h6 h7 ?_
  refine rhF.iinc (pc := 99) (L' := [(6, rhI _), (7, rhI _), (0, rhR _), (1, rhI _), (2, rhI _), (3, rhI _), (4, rhI _), (5, rhI _)]) dX12_feed_99 7 rfl rfl (by decide) rfl ?_
  refine rhF.goto (pc := 102) 18 dX12_feed_102 (by decide) ?_
  refine rhF.sub [2, 3, 4, 5, 6, 7, 0] rfl ?_
  exact hk18 _ _ _ _ _ _ _ _
set_option maxHeartbeats 4000000 in
set_option maxRecDepth 100000 in
theorem b_X12_feed_18 {E : rhE} {Γ : rhG} {k105 : rhM → Nat → Option (Int32 × rhM)} (hk105 : ∀ (M : rhM) (v0 : Nat), rhF E 1 8 yX12_feed cX12_feed (some .int) Γ (rhe1I Γ) (k105 M v0) 105 [(0, rhR v0)] [] Γ M) : ∀ (n : Nat) (M : rhM) (v0 : Nat) (v1 : Int32) (v2 : Int32) (v3 : Int32) (v4 : Int32) (v5 : Int32) (v6 : Int32), rhF E 1 8 yX12_feed cX12_feed (some .int) Γ (rhe1I Γ) (f_X12_feed_18 k105 Γ n M v0 v1 v2 v3 v4 v5 v6) 18 [(0, rhR v0), (1, rhI v1), (2, rhI v2), (3, rhI v3), (4, rhI v4), (5, rhI v5), (6, rhI v6)] [] Γ M := by
  intro n
  induction n with
  | zero => intro M v0 v1 v2 v3 v4 v5 v6; rw [f_X12_feed_18]; exact rhF.nope
  | succ n ih =>
    intro M v0 v1 v2 v3 v4 v5 v6
    rw [f_X12_feed_18]
    refine rhF.iload (pc := 18) dX12_feed_18 6 rfl ?_
    refine rhF.bipush (pc := 20) (v := 20) dX12_feed_20 (by decide) ?_
    refine rhF.icmp_ge (pc := 22) 105 dX12_feed_22 (by decide) (fun h3 => ?_) (fun h3 => ?_)
    · refine rhF.iload (pc := 25) dX12_feed_25 6 rfl ?_
      refine rhF.iconst (pc := 27) (v := 4) dX12_feed_27 (by decide) ?_
      refine rhF.icmp_ge (pc := 28) 35 dX12_feed_28 (by decide) (fun h4 => ?_) (fun h4 => ?_)
      · refine rhF.iload_n (pc := 31) dX12_feed_31 1 rfl ?_
        refine rhF.goto (pc := 32) 71 dX12_feed_32 (by decide) ?_
        exact (b_X12_feed_71 ih) _ _ _ _ _ _ _ _ _
      · refine rhF.iload (pc := 35) dX12_feed_35 6 rfl ?_
        refine rhF.bipush (pc := 37) (v := 8) dX12_feed_37 (by decide) ?_
        refine rhF.icmp_ge (pc := 39) 46 dX12_feed_39 (by decide) (fun h10 => ?_) (fun h10 => ?_)
        · refine rhF.iload_n (pc := 42) dX12_feed_42 2 rfl ?_
          refine rhF.goto (pc := 43) 71 dX12_feed_43 (by decide) ?_
          exact (b_X12_feed_71 ih) _ _ _ _ _ _ _ _ _
        · refine rhF.iload (pc := 46) dX12_feed_46 6 rfl ?_
          refine rhF.bipush (pc := 48) (v := 12) dX12_feed_48 (by decide) ?_
          refine rhF.icmp_ge (pc := 50) 57 dX12_feed_50 (by decide) (fun h11 => ?_) (fun h11 => ?_)
          · refine rhF.iload_n (pc := 53) dX12_feed_53 3 rfl ?_
            refine rhF.goto (pc := 54) 71 dX12_feed_54 (by decide) ?_
            exact (b_X12_feed_71 ih) _ _ _ _ _ _ _ _ _
          · refine rhF.iload (pc := 57) dX12_feed_57 6 rfl ?_
            refine rhF.bipush (pc := 59) (v := 16) dX12_feed_59 (by decide) ?_
            refine rhF.icmp_ge (pc := 61) 69 dX12_feed_61 (by decide) (fun h12 => ?_) (fun h12 => ?_)
            · refine rhF.iload (pc := 64) dX12_feed_64 4 rfl ?_
              refine rhF.goto (pc := 66) 71 dX12_feed_66 (by decide) ?_
              exact (b_X12_feed_71 ih) _ _ _ _ _ _ _ _ _
            · refine rhF.iload (pc := 69) dX12_feed_69 5 rfl ?_
              exact (b_X12_feed_71 ih) _ _ _ _ _ _ _ _ _
    · refine rhF.sub [0] rfl ?_
      exact hk105 _ _
set_option maxHeartbeats 4000000 in
set_option maxRecDepth 100000 in
theorem b_X12_feed_105 {E : rhE} {Γ : rhG} : ∀ (M : rhM) (v0 : Nat), rhF E 1 8 yX12_feed cX12_feed (some .int) Γ (rhe1I Γ) (f_X12_feed_105 Γ M v0) 105 [(0, rhR v0)] [] Γ M := by
  intro M v0
  rw [f_X12_feed_105]
  refine rhF.aload_n (pc := 105) dX12_feed_105 0 rfl ?_
  refine rhF.dupr (pc := 106) dX12_feed_106 ?_
  refine rhF.ck (fun h13 => ?_)
  refine rhF.get (pc := 107) (rhI _) dX12_feed_107 fl_X12_324 h13 rfl ?_
  refine rhF.bipush (pc := 110) (v := 20) dX12_feed_110 (by decide) ?_
  refine rhF.iadd (pc := 112) dX12_feed_112 ?_
  refine rhF.puti (pc := 113) dX12_feed_113 fl_X12_324 h13 (fun q hq => by cases hq; exact Or.inl rfl) ⟨rfl, rfl⟩ (fun _ => rfl) ?_
  refine rhF.aload_n (pc := 116) dX12_feed_116 0 rfl ?_
  refine rhF.get (pc := 117) (rhI _) dX12_feed_117 fl_X12_324 h13 rfl ?_
  exact rhF.zret (pc := 120) dX12_feed_120 rfl rfl rfl
set_option maxHeartbeats 4000000 in
set_option maxRecDepth 100000 in
theorem b_X12_feed {E : rhE} {Γ : rhG} : ∀ (M : rhM) (v0 : Nat) (v1 : Int32) (v2 : Int32) (v3 : Int32) (v4 : Int32) (v5 : Int32), rhF E 1 8 yX12_feed cX12_feed (some .int) Γ (rhe1I Γ) (f_X12_feed Γ M v0 v1 v2 v3 v4 v5) 0 [(0, rhR v0), (1, rhI v1), (2, rhI v2), (3, rhI v3), (4, rhI v4), (5, rhI v5)] [] Γ M := by
  intro M v0 v1 v2 v3 v4 v5
  rw [f_X12_feed]
  refine rhF.aload_n (pc := 0) dX12_feed_0 0 rfl ?_
  refine rhF.ck (fun h1 => ?_)
  refine rhF.get (pc := 1) (rhI _) dX12_feed_1 fl_X12_324 h1 rfl ?_
  refine rhF.bipush (pc := 4) (v := 20) dX12_feed_4 (by decide) ?_
  refine rhF.iadd (pc := 6) dX12_feed_6 ?_
  refine rhF.sipush (pc := 7) (v := 1600) dX12_feed_7 (by decide) ?_
  refine rhF.icmp_le (pc := 10) 15 dX12_feed_10 (by decide) (fun h2 => ?_) (fun h2 => ?_)
  · refine rhF.iconst (pc := 13) (v := (-1)) dX12_feed_13 (by decide) ?_
    exact rhF.zret (pc := 14) dX12_feed_14 rfl rfl rfl
  · refine rhF.iconst (pc := 15) (v := 0) dX12_feed_15 (by decide) ?_
    refine rhF.istore (pc := 16) (L' := [(6, rhI _), (0, rhR _), (1, rhI _), (2, rhI _), (3, rhI _), (4, rhI _), (5, rhI _)]) dX12_feed_16 (by decide) rfl ?_
    refine rhF.sub [1, 2, 3, 4, 5, 6, 0] rfl ?_
    exact (b_X12_feed_18 (b_X12_feed_105) rhFU) _ _ _ _ _ _ _ _
theorem c_X12_feed (E : rhE) (Γ : rhG) (M : rhM) (v0 : Nat) (v1 : Int32) (v2 : Int32) (v3 : Int32) (v4 : Int32) (v5 : Int32) : ∀ a, f_X12_feed Γ M v0 v1 v2 v3 v4 v5 = some a → rhC E 1 yX12_feed cX12_feed 8 (some .int) [rhR v0, rhI v1, rhI v2, rhI v3, rhI v4, rhI v5] Γ M ((rhe1I Γ) a) := rhF.met (by decide +kernel) (Nat.le_of_ble_eq_true rfl) (b_X12_feed M v0 v1 v2 v3 v4 v5)
def f_X12_isMany (Γ : rhG) (M : rhM) (v0 : Nat) : Option (Int32) :=
  rhck (Γ.2.2.1 v0 = 13) <|
  (f_X12_houseMany Γ M v0).bind fun r2 =>
  if 6 < r2 then
    (some 1)
  else
    (f_X12_railMany Γ M v0).bind fun r4 =>
    if 4 < r4 then
      (some 1)
    else
      some 0
set_option maxHeartbeats 4000000 in
set_option maxRecDepth 100000 in
theorem b_X12_isMany {E : rhE} {Γ : rhG} {M : rhM} : ∀ (v0 : Nat), rhF E 5 1 yX12_isMany cX12_isMany (some .boolean) Γ (rhe0I Γ M) (f_X12_isMany Γ M v0) 0 [(0, rhR v0)] [] Γ M := by
  intro v0
  rw [f_X12_isMany]
  refine rhF.aload_n (pc := 0) dX12_isMany_0 0 rfl ?_
  refine rhF.ck (fun h1 => ?_)
  refine rhF.callV (pc := 1) (ci := 12) (embc := rhe0I _ _) [] dX12_isMany_1 ml_X12_419 mv_X12_houseMany ⟨_, rfl, rfl⟩ h1 (c_X12_houseMany _ _ _ _) (by decide) (by decide) rfl (Nat.le_of_ble_eq_true rfl) (fun r2 _ => ?_)
  refine rhF.bipush (pc := 4) (v := 6) dX12_isMany_4 (by decide) ?_
  refine rhF.icmp_gt (pc := 6) 17 dX12_isMany_6 (by decide) (fun h3 => ?_) (fun h3 => ?_)
  · refine rhF.iconst (pc := 17) (v := 1) dX12_isMany_17 (by decide) ?_
    refine rhF.goto (pc := 18) 22 dX12_isMany_18 (by decide) ?_
    exact rhF.zret (pc := 22) dX12_isMany_22 rfl rfl rfl
  · refine rhF.aload_n (pc := 9) dX12_isMany_9 0 rfl ?_
    refine rhF.callV (pc := 10) (ci := 12) (embc := rhe0I _ _) [] dX12_isMany_10 ml_X12_412 mv_X12_railMany ⟨_, rfl, rfl⟩ h1 (c_X12_railMany _ _ _ _) (by decide) (by decide) rfl (Nat.le_of_ble_eq_true rfl) (fun r4 _ => ?_)
    refine rhF.iconst (pc := 13) (v := 4) dX12_isMany_13 (by decide) ?_
    refine rhF.icmp_le (pc := 14) 21 dX12_isMany_14 (by decide) (fun h5 => ?_) (fun h5 => ?_)
    · refine rhF.iconst (pc := 17) (v := 1) dX12_isMany_17 (by decide) ?_
      refine rhF.goto (pc := 18) 22 dX12_isMany_18 (by decide) ?_
      exact rhF.zret (pc := 22) dX12_isMany_22 rfl rfl rfl
    · refine rhF.iconst (pc := 21) (v := 0) dX12_isMany_21 (by decide) ?_
      exact rhF.zret (pc := 22) dX12_isMany_22 rfl rfl rfl
theorem c_X12_isMany (E : rhE) (Γ : rhG) (M : rhM) (v0 : Nat) : ∀ a, f_X12_isMany Γ M v0 = some a → rhC E 5 yX12_isMany cX12_isMany 1 (some .boolean) [rhR v0] Γ M ((rhe0I Γ M) a) := rhF.met (by decide +kernel) (Nat.le_of_ble_eq_true rfl) (b_X12_isMany v0)
def f_X12_layWay_17 (Γ : rhG) : Nat → rhM → Nat → Int32 → Int32 → Option (rhM)
  | 0, _, _, _, _ => none
  | n + 1, M, v0, v2, v3 =>
    rhck (Γ.2.2.1 v0 = 13) <|
    rhck (Γ.2.2.1 (M.2.2 v0 55) = 15) <|
    rhck (0 ≤ (v3).toInt ∧ (v3).toInt < (Γ.2.2.2 (M.2.2 v0 55) : Nat)) <|
    if (M.1 (M.2.2 v0 55) v3.toNatClampNeg) < 0 then
      (some M)
    else
      let x10 : Int32 := v2 + (-1)
      rhck (Γ.2.2.1 (M.2.2 v0 54) = 15) <|
      rhck (0 ≤ (v3).toInt ∧ (v3).toInt < (Γ.2.2.2 (M.2.2 v0 54) : Nat)) <|
      rhck (Γ.2.2.1 (M.2.2 v0 65) = 15) <|
      rhck (0 ≤ (x10).toInt ∧ (x10).toInt < (Γ.2.2.2 (M.2.2 v0 65) : Nat)) <|
      let M15 := rhsi M (M.2.2 v0 65) (x10 : Int32).toNatClampNeg (M.1 (M.2.2 v0 54) v3.toNatClampNeg)
      let x16 := M15.1 (M.2.2 v0 55) v3.toNatClampNeg
      f_X12_layWay_17 Γ n M15 v0 x10 x16
def f_X12_layWay (Γ : rhG) (M : rhM) (v0 : Nat) (v1 : Int32) : Option (rhM) :=
  rhck (Γ.2.2.1 v0 = 13) <|
  rhck (Γ.2.2.1 (M.2.2 v0 56) = 15) <|
  rhck (0 ≤ (v1).toInt ∧ (v1).toInt < (Γ.2.2.2 (M.2.2 v0 56) : Nat)) <|
  let M4 := rhsi M v0 66 (M.1 (M.2.2 v0 56) v1.toNatClampNeg)
  let x5 := M4.1 v0 66
  f_X12_layWay_17 Γ rhFU M4 v0 x5 v1
set_option maxHeartbeats 4000000 in
set_option maxRecDepth 100000 in
theorem b_X12_layWay_17 {E : rhE} {Γ : rhG} : ∀ (n : Nat) (M : rhM) (v0 : Nat) (v2 : Int32) (v3 : Int32), rhF E 1 4 yX12_layWay cX12_layWay none Γ (rhe1U Γ) (f_X12_layWay_17 Γ n M v0 v2 v3) 17 [(0, rhR v0), (2, rhI v2), (3, rhI v3)] [] Γ M := by
  intro n
  induction n with
  | zero => intro M v0 v2 v3; rw [f_X12_layWay_17]; exact rhF.nope
  | succ n ih =>
    intro M v0 v2 v3
    rw [f_X12_layWay_17]
    refine rhF.aload_n (pc := 17) dX12_layWay_17 0 rfl ?_
    refine rhF.ck (fun h6 => ?_)
    refine rhF.get (pc := 18) (rhR _) dX12_layWay_18 fl_X12_126 h6 rfl ?_
    refine rhF.iload_n (pc := 21) dX12_layWay_21 2 rfl ?_
    refine rhF.ck (fun h7 => ?_)
    refine rhF.ck (fun h8 => ?_)
    refine rhF.iald (pc := 22) dX12_layWay_22 h7 h8 ?_
    refine rhF.if_lt (pc := 23) 51 dX12_layWay_23 (by decide) (fun h9 => ?_) (fun h9 => ?_)
    · exact rhF.vret (pc := 51) dX12_layWay_51 rfl rfl
    · refine rhF.iinc (pc := 26) (L' := [(2, rhI _), (0, rhR _), (3, rhI _)]) dX12_layWay_26 1 rfl rfl (by decide) rfl ?_
      refine rhF.aload_n (pc := 29) dX12_layWay_29 1 rfl ?_
      refine rhF.get (pc := 30) (rhR _) dX12_layWay_30 fl_X12_148 h6 rfl ?_
      refine rhF.iload_n (pc := 33) dX12_layWay_33 0 rfl ?_
      refine rhF.aload_n (pc := 34) dX12_layWay_34 1 rfl ?_
      refine rhF.get (pc := 35) (rhR _) dX12_layWay_35 fl_X12_123 h6 rfl ?_
      refine rhF.iload_n (pc := 38) dX12_layWay_38 2 rfl ?_
      refine rhF.ck (fun h11 => ?_)
      refine rhF.ck (fun h12 => ?_)
      refine rhF.iald (pc := 39) dX12_layWay_39 h11 h12 ?_
      refine rhF.ck (fun h13 => ?_)
      refine rhF.ck (fun h14 => ?_)
      refine rhF.iast (pc := 40) dX12_layWay_40 h13 h14 ?_
      refine rhF.aload_n (pc := 41) dX12_layWay_41 1 rfl ?_
      refine rhF.get (pc := 42) (rhR _) dX12_layWay_42 fl_X12_126 h6 rfl ?_
      refine rhF.iload_n (pc := 45) dX12_layWay_45 2 rfl ?_
      refine rhF.iald (pc := 46) dX12_layWay_46 h7 h8 ?_
      refine rhF.istore_n (pc := 47) (L' := [(3, rhI _), (2, rhI _), (0, rhR _)]) dX12_layWay_47 (by decide) rfl ?_
      refine rhF.goto (pc := 48) 17 dX12_layWay_48 (by decide) ?_
      refine rhF.sub [2, 1, 0] rfl ?_
      exact ih _ _ _ _
set_option maxHeartbeats 4000000 in
set_option maxRecDepth 100000 in
theorem b_X12_layWay {E : rhE} {Γ : rhG} : ∀ (M : rhM) (v0 : Nat) (v1 : Int32), rhF E 1 4 yX12_layWay cX12_layWay none Γ (rhe1U Γ) (f_X12_layWay Γ M v0 v1) 0 [(0, rhR v0), (1, rhI v1)] [] Γ M := by
  intro M v0 v1
  rw [f_X12_layWay]
  refine rhF.aload_n (pc := 0) dX12_layWay_0 0 rfl ?_
  refine rhF.aload_n (pc := 1) dX12_layWay_1 0 rfl ?_
  refine rhF.ck (fun h1 => ?_)
  refine rhF.get (pc := 2) (rhR _) dX12_layWay_2 fl_X12_129 h1 rfl ?_
  refine rhF.iload_n (pc := 5) dX12_layWay_5 1 rfl ?_
  refine rhF.ck (fun h2 => ?_)
  refine rhF.ck (fun h3 => ?_)
  refine rhF.iald (pc := 6) dX12_layWay_6 h2 h3 ?_
  refine rhF.puti (pc := 7) dX12_layWay_7 fl_X12_342 h1 (fun q hq => by cases hq; exact Or.inl rfl) ⟨rfl, rfl⟩ (fun _ => rfl) ?_
  refine rhF.aload_n (pc := 10) dX12_layWay_10 0 rfl ?_
  refine rhF.get (pc := 11) (rhI _) dX12_layWay_11 fl_X12_342 h1 rfl ?_
  refine rhF.istore_n (pc := 14) (L' := [(2, rhI _), (0, rhR _), (1, rhI _)]) dX12_layWay_14 (by decide) rfl ?_
  refine rhF.iload_n (pc := 15) dX12_layWay_15 2 rfl ?_
  refine rhF.istore_n (pc := 16) (L' := [(3, rhI _), (2, rhI _), (0, rhR _), (1, rhI _)]) dX12_layWay_16 (by decide) rfl ?_
  refine rhF.sub [2, 1, 0] rfl ?_
  exact (b_X12_layWay_17 rhFU) _ _ _ _
theorem c_X12_layWay (E : rhE) (Γ : rhG) (M : rhM) (v0 : Nat) (v1 : Int32) : ∀ a, f_X12_layWay Γ M v0 v1 = some a → rhC E 1 yX12_layWay cX12_layWay 4 none [rhR v0, rhI v1] Γ M ((rhe1U Γ) a) := rhF.met (by decide +kernel) (Nat.le_of_ble_eq_true rfl) (b_X12_layWay M v0 v1)
def f_X12_isFree_16 (k36 : Nat → Int32 → Option (Int32)) (k64 : Nat → Int32 → Int32 → Option (Int32)) (Γ : rhG) (M : rhM) : Nat → Nat → Int32 → Int32 → Int32 → Option (Int32)
  | 0, _, _, _, _ => none
  | n + 1, v0, v1, v2, v3 =>
    rhck (Γ.2.2.1 v0 = 13) <|
    rhck (Γ.2.2.1 (M.2.2 v0 40) = 15) <|
    rhck (0 ≤ (v2).toInt ∧ (v2).toInt < (Γ.2.2.2 (M.2.2 v0 40) : Nat)) <|
    if v3 < (M.1 (M.2.2 v0 40) v2.toNatClampNeg) then
      (rhck (Γ.2.2.1 (M.2.2 v0 39) = 15) <|
      rhck (0 ≤ (v3).toInt ∧ (v3).toInt < (Γ.2.2.2 (M.2.2 v0 39) : Nat)) <|
      if (M.1 (M.2.2 v0 39) v3.toNatClampNeg) = v1 then
        (k36 v0 v2)
      else
        let x12 : Int32 := v3 + 1
        f_X12_isFree_16 k36 k64 Γ M n v0 v1 v2 x12)
    else
      k64 v0 v1 v2
def f_X12_isFree_64 (k2 : Nat → Int32 → Int32 → Option (Int32)) (Γ : rhG) (M : rhM) (v0 : Nat) (v1 : Int32) (v2 : Int32) : Option (Int32) :=
  let x13 : Int32 := v2 + 1
  k2 v0 v1 x13
def f_X12_isFree_2 (k36 : Nat → Int32 → Option (Int32)) (Γ : rhG) (M : rhM) : Nat → Nat → Int32 → Int32 → Option (Int32)
  | 0, _, _, _ => none
  | n + 1, v0, v1, v2 =>
    rhck (Γ.2.2.1 v0 = 13) <|
    (f_X12_railMany Γ M v0).bind fun r2 =>
    if v2 < r2 then
      ((f_X12_beginOf Γ M v0 v2).bind fun r4 =>
      f_X12_isFree_16 k36 (f_X12_isFree_64 (f_X12_isFree_2 k36 Γ M n) Γ M) Γ M rhFU v0 v1 v2 r4)
    else
      some 1
def f_X12_isFree_36 (Γ : rhG) (M : rhM) (v0 : Nat) (v2 : Int32) : Option (Int32) :=
  rhck (Γ.2.2.1 v0 = 13) <|
  rhck (Γ.2.2.1 (M.2.2 v0 40) = 15) <|
  rhck (0 ≤ (v2).toInt ∧ (v2).toInt < (Γ.2.2.2 (M.2.2 v0 40) : Nat)) <|
  (f_X12_beginOf Γ M v0 v2).bind fun r17 =>
  if ((M.1 (M.2.2 v0 40) v2.toNatClampNeg) - r17) = 1 then
    (some 1)
  else
    some 0
def f_X12_isFree (Γ : rhG) (M : rhM) (v0 : Nat) (v1 : Int32) : Option (Int32) :=
  f_X12_isFree_2 (f_X12_isFree_36 Γ M) Γ M rhFU v0 v1 0
set_option maxHeartbeats 4000000 in
set_option maxRecDepth 100000 in
theorem b_X12_isFree_16 {E : rhE} {Γ : rhG} {M : rhM} {k36 : Nat → Int32 → Option (Int32)} {k64 : Nat → Int32 → Int32 → Option (Int32)} (hk36 : ∀ (v0 : Nat) (v2 : Int32), rhF E 5 4 yX12_isFree cX12_isFree (some .boolean) Γ (rhe0I Γ M) (k36 v0 v2) 36 [(0, rhR v0), (2, rhI v2)] [] Γ M) (hk64 : ∀ (v0 : Nat) (v1 : Int32) (v2 : Int32), rhF E 5 4 yX12_isFree cX12_isFree (some .boolean) Γ (rhe0I Γ M) (k64 v0 v1 v2) 64 [(0, rhR v0), (1, rhI v1), (2, rhI v2)] [] Γ M) : ∀ (n : Nat) (v0 : Nat) (v1 : Int32) (v2 : Int32) (v3 : Int32), rhF E 5 4 yX12_isFree cX12_isFree (some .boolean) Γ (rhe0I Γ M) (f_X12_isFree_16 k36 k64 Γ M n v0 v1 v2 v3) 16 [(0, rhR v0), (1, rhI v1), (2, rhI v2), (3, rhI v3)] [] Γ M := by
  intro n
  induction n with
  | zero => intro v0 v1 v2 v3; rw [f_X12_isFree_16]; exact rhF.nope
  | succ n ih =>
    intro v0 v1 v2 v3
    rw [f_X12_isFree_16]
    refine rhF.iload_n (pc := 16) dX12_isFree_16 3 rfl ?_
    refine rhF.aload_n (pc := 17) dX12_isFree_17 0 rfl ?_
    refine rhF.ck (fun h5 => ?_)
    refine rhF.get (pc := 18) (rhR _) dX12_isFree_18 fl_X12_95 h5 rfl ?_
    refine rhF.iload_n (pc := 21) dX12_isFree_21 2 rfl ?_
    refine rhF.ck (fun h6 => ?_)
    refine rhF.ck (fun h7 => ?_)
    refine rhF.iald (pc := 22) dX12_isFree_22 h6 h7 ?_
    refine rhF.icmp_ge (pc := 23) 64 dX12_isFree_23 (by decide) (fun h8 => ?_) (fun h8 => ?_)
    · refine rhF.aload_n (pc := 26) dX12_isFree_26 0 rfl ?_
      refine rhF.get (pc := 27) (rhR _) dX12_isFree_27 fl_X12_92 h5 rfl ?_
      refine rhF.iload_n (pc := 30) dX12_isFree_30 3 rfl ?_
      refine rhF.ck (fun h9 => ?_)
      refine rhF.ck (fun h10 => ?_)
      refine rhF.iald (pc := 31) dX12_isFree_31 h9 h10 ?_
      refine rhF.iload_n (pc := 32) dX12_isFree_32 1 rfl ?_
      refine rhF.icmp_ne (pc := 33) 58 dX12_isFree_33 (by decide) (fun h11 => ?_) (fun h11 => ?_)
      · refine rhF.sub [0, 2] rfl ?_
        exact hk36 _ _
      · refine rhF.iinc (pc := 58) (L' := [(3, rhI _), (0, rhR _), (1, rhI _), (2, rhI _)]) dX12_isFree_58 3 rfl rfl (by decide) rfl ?_
        refine rhF.goto (pc := 61) 16 dX12_isFree_61 (by decide) ?_
        refine rhF.sub [1, 2, 3, 0] rfl ?_
        exact ih _ _ _ _
    · refine rhF.sub [0, 1, 2] rfl ?_
      exact hk64 _ _ _
set_option maxHeartbeats 4000000 in
set_option maxRecDepth 100000 in
theorem b_X12_isFree_64 {E : rhE} {Γ : rhG} {M : rhM} {k2 : Nat → Int32 → Int32 → Option (Int32)} (hk2 : ∀ (v0 : Nat) (v1 : Int32) (v2 : Int32), rhF E 5 4 yX12_isFree cX12_isFree (some .boolean) Γ (rhe0I Γ M) (k2 v0 v1 v2) 2 [(0, rhR v0), (1, rhI v1), (2, rhI v2)] [] Γ M) : ∀ (v0 : Nat) (v1 : Int32) (v2 : Int32), rhF E 5 4 yX12_isFree cX12_isFree (some .boolean) Γ (rhe0I Γ M) (f_X12_isFree_64 k2 Γ M v0 v1 v2) 64 [(0, rhR v0), (1, rhI v1), (2, rhI v2)] [] Γ M := by
  intro v0 v1 v2
  rw [f_X12_isFree_64]
  refine rhF.iinc (pc := 64) (L' := [(2, rhI _), (0, rhR _), (1, rhI _)]) dX12_isFree_64 2 rfl rfl (by decide) rfl ?_
  refine rhF.goto (pc := 67) 2 dX12_isFree_67 (by decide) ?_
  refine rhF.sub [1, 2, 0] rfl ?_
  exact hk2 _ _ _
set_option maxHeartbeats 4000000 in
set_option maxRecDepth 100000 in
theorem b_X12_isFree_2 {E : rhE} {Γ : rhG} {M : rhM} {k36 : Nat → Int32 → Option (Int32)} (hk36 : ∀ (v0 : Nat) (v2 : Int32), rhF E 5 4 yX12_isFree cX12_isFree (some .boolean) Γ (rhe0I Γ M) (k36 v0 v2) 36 [(0, rhR v0), (2, rhI v2)] [] Γ M) : ∀ (n : Nat) (v0 : Nat) (v1 : Int32) (v2 : Int32), rhF E 5 4 yX12_isFree cX12_isFree (some .boolean) Γ (rhe0I Γ M) (f_X12_isFree_2 k36 Γ M n v0 v1 v2) 2 [(0, rhR v0), (1, rhI v1), (2, rhI v2)] [] Γ M := by
  intro n
  induction n with
  | zero => intro v0 v1 v2; rw [f_X12_isFree_2]; exact rhF.nope
  | succ n ih =>
    intro v0 v1 v2
    rw [f_X12_isFree_2]
    refine rhF.iload_n (pc := 2) dX12_isFree_2 2 rfl ?_
    refine rhF.aload_n (pc := 3) dX12_isFree_3 0 rfl ?_
    refine rhF.ck (fun h1 => ?_)
    refine rhF.callV (pc := 4) (ci := 12) (embc := rhe0I _ _) [] dX12_isFree_4 ml_X12_412 mv_X12_railMany ⟨_, rfl, rfl⟩ h1 (c_X12_railMany _ _ _ _) (by decide) (by decide) rfl (Nat.le_of_ble_eq_true rfl) (fun r2 _ => ?_)
    refine rhF.icmp_ge (pc := 7) 70 dX12_isFree_7 (by decide) (fun h3 => ?_) (fun h3 => ?_)
    · refine rhF.aload_n (pc := 10) dX12_isFree_10 0 rfl ?_
      refine rhF.iload_n (pc := 11) dX12_isFree_11 2 rfl ?_
      refine rhF.callV (pc := 12) (ci := 12) (embc := rhe0I _ _) [rhI _] dX12_isFree_12 ml_X12_425 mv_X12_beginOf ⟨_, rfl, rfl⟩ h1 (c_X12_beginOf _ _ _ _ _) (by decide) (by decide) rfl (Nat.le_of_ble_eq_true rfl) (fun r4 _ => ?_)
      refine rhF.istore_n (pc := 15) (L' := [(3, rhI _), (0, rhR _), (1, rhI _), (2, rhI _)]) dX12_isFree_15 (by decide) rfl ?_
      refine rhF.sub [1, 2, 3, 0] rfl ?_
      exact (b_X12_isFree_16 hk36 (b_X12_isFree_64 ih) rhFU) _ _ _ _
    · refine rhF.iconst (pc := 70) (v := 1) dX12_isFree_70 (by decide) ?_
      exact rhF.zret (pc := 71) dX12_isFree_71 rfl rfl rfl
set_option maxHeartbeats 4000000 in
set_option maxRecDepth 100000 in
theorem b_X12_isFree_36 {E : rhE} {Γ : rhG} {M : rhM} : ∀ (v0 : Nat) (v2 : Int32), rhF E 5 4 yX12_isFree cX12_isFree (some .boolean) Γ (rhe0I Γ M) (f_X12_isFree_36 Γ M v0 v2) 36 [(0, rhR v0), (2, rhI v2)] [] Γ M := by
  intro v0 v2
  rw [f_X12_isFree_36]
  refine rhF.aload_n (pc := 36) dX12_isFree_36 0 rfl ?_
  refine rhF.ck (fun h14 => ?_)
  refine rhF.get (pc := 37) (rhR _) dX12_isFree_37 fl_X12_95 h14 rfl ?_
  refine rhF.iload_n (pc := 40) dX12_isFree_40 1 rfl ?_
  refine rhF.ck (fun h15 => ?_)
  refine rhF.ck (fun h16 => ?_)
  refine rhF.iald (pc := 41) dX12_isFree_41 h15 h16 ?_
  refine rhF.aload_n (pc := 42) dX12_isFree_42 0 rfl ?_
  refine rhF.iload_n (pc := 43) dX12_isFree_43 1 rfl ?_
  refine rhF.callV (pc := 44) (ci := 12) (embc := rhe0I _ _) [rhI _] dX12_isFree_44 ml_X12_425 mv_X12_beginOf ⟨_, rfl, rfl⟩ h14 (c_X12_beginOf _ _ _ _ _) (by decide) (by decide) rfl (Nat.le_of_ble_eq_true rfl) (fun r17 _ => ?_)
  refine rhF.isub (pc := 47) dX12_isFree_47 ?_
  refine rhF.iconst (pc := 48) (v := 1) dX12_isFree_48 (by decide) ?_
  refine rhF.icmp_ne (pc := 49) 56 dX12_isFree_49 (by decide) (fun h18 => ?_) (fun h18 => ?_)
  · refine rhF.iconst (pc := 52) (v := 1) dX12_isFree_52 (by decide) ?_
    refine rhF.goto (pc := 53) 57 dX12_isFree_53 (by decide) ?_
    exact rhF.zret (pc := 57) dX12_isFree_57 rfl rfl rfl
  · refine rhF.iconst (pc := 56) (v := 0) dX12_isFree_56 (by decide) ?_
    exact rhF.zret (pc := 57) dX12_isFree_57 rfl rfl rfl
set_option maxHeartbeats 4000000 in
set_option maxRecDepth 100000 in
theorem b_X12_isFree {E : rhE} {Γ : rhG} {M : rhM} : ∀ (v0 : Nat) (v1 : Int32), rhF E 5 4 yX12_isFree cX12_isFree (some .boolean) Γ (rhe0I Γ M) (f_X12_isFree Γ M v0 v1) 0 [(0, rhR v0), (1, rhI v1)] [] Γ M := by
  intro v0 v1
  rw [f_X12_isFree]
  refine rhF.iconst (pc := 0) (v := 0) dX12_isFree_0 (by decide) ?_
  refine rhF.istore_n (pc := 1) (L' := [(2, rhI _), (0, rhR _), (1, rhI _)]) dX12_isFree_1 (by decide) rfl ?_
  refine rhF.sub [1, 2, 0] rfl ?_
  exact (b_X12_isFree_2 (b_X12_isFree_36) rhFU) _ _ _
theorem c_X12_isFree (E : rhE) (Γ : rhG) (M : rhM) (v0 : Nat) (v1 : Int32) : ∀ a, f_X12_isFree Γ M v0 v1 = some a → rhC E 5 yX12_isFree cX12_isFree 4 (some .boolean) [rhR v0, rhI v1] Γ M ((rhe0I Γ M) a) := rhF.met (by decide +kernel) (Nat.le_of_ble_eq_true rfl) (b_X12_isFree v0 v1)
def f_X12_isEnd_58 (Γ : rhG) (M : rhM) : Nat → Nat → Int32 → Option (Int32)
  | 0, _, _ => none
  | n + 1, v0, v1 =>
    rhck (Γ.2.2.1 v0 = 13) <|
    if v1 < (M.1 v0 53) then
      (rhck (Γ.2.2.1 (M.2.2 v0 39) = 15) <|
      rhck (0 ≤ (v1).toInt ∧ (v1).toInt < (Γ.2.2.2 (M.2.2 v0 39) : Nat)) <|
      rhck (Γ.2.2.1 (M.2.2 v0 52) = 15) <|
      rhck (0 ≤ (v1).toInt ∧ (v1).toInt < (Γ.2.2.2 (M.2.2 v0 52) : Nat)) <|
      if (M.1 (M.2.2 v0 39) v1.toNatClampNeg) = (M.1 (M.2.2 v0 52) v1.toNatClampNeg) then
        (let x19 : Int32 := v1 + 1
        f_X12_isEnd_58 Γ M n v0 x19)
      else
        some 0)
    else
      some 1
def f_X12_isEnd_56 (Γ : rhG) (M : rhM) (v0 : Nat) : Option (Int32) :=
  f_X12_isEnd_58 Γ M rhFU v0 0
def f_X12_isEnd (Γ : rhG) (M : rhM) (v0 : Nat) : Option (Int32) :=
  rhck (Γ.2.2.1 v0 = 13) <|
  if (M.1 v0 61) = 2 then
    (some 0)
  else
    if (M.1 v0 61) = 1 then
      ((f_X12_isFree Γ M v0 (M.1 v0 62)).bind fun r4 =>
      rhck (r4 = 0 ∨ r4 = 1) <|
      some r4)
    else
      if 0 < (M.1 v0 53) then
        ((f_X12_railMany Γ M v0).bind fun r7 =>
        if r7 = 0 then
          (some 0)
        else
          rhck (Γ.2.2.1 (M.2.2 v0 40) = 15) <|
          rhck (0 ≤ (0 : Int32).toInt ∧ (0 : Int32).toInt < (Γ.2.2.2 (M.2.2 v0 40) : Nat)) <|
          if (M.1 (M.2.2 v0 40) (0 : Int32).toNatClampNeg) < (M.1 v0 53) then
            (some 0)
          else
            f_X12_isEnd_56 Γ M v0)
      else
        f_X12_isEnd_56 Γ M v0
set_option maxHeartbeats 4000000 in
set_option maxRecDepth 100000 in
theorem b_X12_isEnd_58 {E : rhE} {Γ : rhG} {M : rhM} : ∀ (n : Nat) (v0 : Nat) (v1 : Int32), rhF E 6 2 yX12_isEnd cX12_isEnd (some .boolean) Γ (rhe0I Γ M) (f_X12_isEnd_58 Γ M n v0 v1) 58 [(0, rhR v0), (1, rhI v1)] [] Γ M := by
  intro n
  induction n with
  | zero => intro v0 v1; rw [f_X12_isEnd_58]; exact rhF.nope
  | succ n ih =>
    intro v0 v1
    rw [f_X12_isEnd_58]
    refine rhF.iload_n (pc := 58) dX12_isEnd_58 1 rfl ?_
    refine rhF.aload_n (pc := 59) dX12_isEnd_59 0 rfl ?_
    refine rhF.ck (fun h12 => ?_)
    refine rhF.get (pc := 60) (rhI _) dX12_isEnd_60 fl_X12_339 h12 rfl ?_
    refine rhF.icmp_ge (pc := 63) 89 dX12_isEnd_63 (by decide) (fun h13 => ?_) (fun h13 => ?_)
    · refine rhF.aload_n (pc := 66) dX12_isEnd_66 0 rfl ?_
      refine rhF.get (pc := 67) (rhR _) dX12_isEnd_67 fl_X12_92 h12 rfl ?_
      refine rhF.iload_n (pc := 70) dX12_isEnd_70 1 rfl ?_
      refine rhF.ck (fun h14 => ?_)
      refine rhF.ck (fun h15 => ?_)
      refine rhF.iald (pc := 71) dX12_isEnd_71 h14 h15 ?_
      refine rhF.aload_n (pc := 72) dX12_isEnd_72 0 rfl ?_
      refine rhF.get (pc := 73) (rhR _) dX12_isEnd_73 fl_X12_119 h12 rfl ?_
      refine rhF.iload_n (pc := 76) dX12_isEnd_76 1 rfl ?_
      refine rhF.ck (fun h16 => ?_)
      refine rhF.ck (fun h17 => ?_)
      refine rhF.iald (pc := 77) dX12_isEnd_77 h16 h17 ?_
      refine rhF.icmp_eq (pc := 78) 83 dX12_isEnd_78 (by decide) (fun h18 => ?_) (fun h18 => ?_)
      · refine rhF.iinc (pc := 83) (L' := [(1, rhI _), (0, rhR _)]) dX12_isEnd_83 1 rfl rfl (by decide) rfl ?_
        refine rhF.goto (pc := 86) 58 dX12_isEnd_86 (by decide) ?_
        refine rhF.sub [1, 0] rfl ?_
        exact ih _ _
      · refine rhF.iconst (pc := 81) (v := 0) dX12_isEnd_81 (by decide) ?_
        exact rhF.zret (pc := 82) dX12_isEnd_82 rfl rfl rfl
    · refine rhF.iconst (pc := 89) (v := 1) dX12_isEnd_89 (by decide) ?_
      exact rhF.zret (pc := 90) dX12_isEnd_90 rfl rfl rfl
set_option maxHeartbeats 4000000 in
set_option maxRecDepth 100000 in
theorem b_X12_isEnd_56 {E : rhE} {Γ : rhG} {M : rhM} : ∀ (v0 : Nat), rhF E 6 2 yX12_isEnd cX12_isEnd (some .boolean) Γ (rhe0I Γ M) (f_X12_isEnd_56 Γ M v0) 56 [(0, rhR v0)] [] Γ M := by
  intro v0
  rw [f_X12_isEnd_56]
  refine rhF.iconst (pc := 56) (v := 0) dX12_isEnd_56 (by decide) ?_
  refine rhF.istore_n (pc := 57) (L' := [(1, rhI _), (0, rhR _)]) dX12_isEnd_57 (by decide) rfl ?_
  refine rhF.sub [1, 0] rfl ?_
  exact (b_X12_isEnd_58 rhFU) _ _
set_option maxHeartbeats 4000000 in
set_option maxRecDepth 100000 in
theorem b_X12_isEnd {E : rhE} {Γ : rhG} {M : rhM} : ∀ (v0 : Nat), rhF E 6 2 yX12_isEnd cX12_isEnd (some .boolean) Γ (rhe0I Γ M) (f_X12_isEnd Γ M v0) 0 [(0, rhR v0)] [] Γ M := by
  intro v0
  rw [f_X12_isEnd]
  refine rhF.aload_n (pc := 0) dX12_isEnd_0 0 rfl ?_
  refine rhF.ck (fun h1 => ?_)
  refine rhF.get (pc := 1) (rhI _) dX12_isEnd_1 fl_X12_481 h1 rfl ?_
  refine rhF.iconst (pc := 4) (v := 2) dX12_isEnd_4 (by decide) ?_
  refine rhF.icmp_ne (pc := 5) 10 dX12_isEnd_5 (by decide) (fun h2 => ?_) (fun h2 => ?_)
  · refine rhF.iconst (pc := 8) (v := 0) dX12_isEnd_8 (by decide) ?_
    exact rhF.zret (pc := 9) dX12_isEnd_9 rfl rfl rfl
  · refine rhF.aload_n (pc := 10) dX12_isEnd_10 0 rfl ?_
    refine rhF.get (pc := 11) (rhI _) dX12_isEnd_11 fl_X12_481 h1 rfl ?_
    refine rhF.iconst (pc := 14) (v := 1) dX12_isEnd_14 (by decide) ?_
    refine rhF.icmp_ne (pc := 15) 27 dX12_isEnd_15 (by decide) (fun h3 => ?_) (fun h3 => ?_)
    · refine rhF.aload_n (pc := 18) dX12_isEnd_18 0 rfl ?_
      refine rhF.aload_n (pc := 19) dX12_isEnd_19 0 rfl ?_
      refine rhF.get (pc := 20) (rhI _) dX12_isEnd_20 fl_X12_484 h1 rfl ?_
      refine rhF.callV (pc := 23) (ci := 12) (embc := rhe0I _ _) [rhI _] dX12_isEnd_23 ml_X12_487 mv_X12_isFree ⟨_, rfl, rfl⟩ h1 (c_X12_isFree _ _ _ _ _) (by decide) (by decide) rfl (Nat.le_of_ble_eq_true rfl) (fun r4 _ => ?_)
      refine rhF.ck (fun h5 => ?_)
      exact rhF.zret (pc := 26) dX12_isEnd_26 rfl (rhzb h5) rfl
    · refine rhF.aload_n (pc := 27) dX12_isEnd_27 0 rfl ?_
      refine rhF.get (pc := 28) (rhI _) dX12_isEnd_28 fl_X12_339 h1 rfl ?_
      refine rhF.if_le (pc := 31) 56 dX12_isEnd_31 (by decide) (fun h6 => ?_) (fun h6 => ?_)
      · refine rhF.aload_n (pc := 34) dX12_isEnd_34 0 rfl ?_
        refine rhF.callV (pc := 35) (ci := 12) (embc := rhe0I _ _) [] dX12_isEnd_35 ml_X12_412 mv_X12_railMany ⟨_, rfl, rfl⟩ h1 (c_X12_railMany _ _ _ _) (by decide) (by decide) rfl (Nat.le_of_ble_eq_true rfl) (fun r7 _ => ?_)
        refine rhF.if_eq (pc := 38) 54 dX12_isEnd_38 (by decide) (fun h8 => ?_) (fun h8 => ?_)
        · refine rhF.iconst (pc := 54) (v := 0) dX12_isEnd_54 (by decide) ?_
          exact rhF.zret (pc := 55) dX12_isEnd_55 rfl rfl rfl
        · refine rhF.aload_n (pc := 41) dX12_isEnd_41 0 rfl ?_
          refine rhF.get (pc := 42) (rhR _) dX12_isEnd_42 fl_X12_95 h1 rfl ?_
          refine rhF.iconst (pc := 45) (v := 0) dX12_isEnd_45 (by decide) ?_
          refine rhF.ck (fun h9 => ?_)
          refine rhF.ck (fun h10 => ?_)
          refine rhF.iald (pc := 46) dX12_isEnd_46 h9 h10 ?_
          refine rhF.aload_n (pc := 47) dX12_isEnd_47 0 rfl ?_
          refine rhF.get (pc := 48) (rhI _) dX12_isEnd_48 fl_X12_339 h1 rfl ?_
          refine rhF.icmp_ge (pc := 51) 56 dX12_isEnd_51 (by decide) (fun h11 => ?_) (fun h11 => ?_)
          · refine rhF.iconst (pc := 54) (v := 0) dX12_isEnd_54 (by decide) ?_
            exact rhF.zret (pc := 55) dX12_isEnd_55 rfl rfl rfl
          · exact (b_X12_isEnd_56) _
      · exact (b_X12_isEnd_56) _
theorem c_X12_isEnd (E : rhE) (Γ : rhG) (M : rhM) (v0 : Nat) : ∀ a, f_X12_isEnd Γ M v0 = some a → rhC E 6 yX12_isEnd cX12_isEnd 2 (some .boolean) [rhR v0] Γ M ((rhe0I Γ M) a) := rhF.met (by decide +kernel) (Nat.le_of_ble_eq_true rfl) (b_X12_isEnd v0)
def f_X12_layState_10 (k37 : rhM → Nat → Int32 → Int32 → Option (rhM)) (Γ : rhG) : Nat → rhM → Nat → Int32 → Int32 → Int32 → Option (rhM)
  | 0, _, _, _, _, _ => none
  | n + 1, M, v0, v2, v3, v4 =>
    if v4 < 0 then
      (k37 M v0 v2 v3)
    else
      rhck (Γ.2.2.1 v0 = 13) <|
      rhck (Γ.2.2.1 (M.2.2 v0 40) = 15) <|
      rhck (0 ≤ (v4).toInt ∧ (v4).toInt < (Γ.2.2.2 (M.2.2 v0 40) : Nat)) <|
      let M7 := rhsi M (M.2.2 v0 40) (v4 : Int32).toNatClampNeg (v3 - v3 / 7 * 7)
      let x8 := v3 / 7
      let x9 : Int32 := v4 + (-1)
      f_X12_layState_10 k37 Γ n M7 v0 v2 x8 x9
def f_X12_layState_60 (k91 : rhM → Nat → Int32 → Int32 → Option (rhM)) (Γ : rhG) : Nat → rhM → Nat → Int32 → Int32 → Int32 → Int32 → Option (rhM)
  | 0, _, _, _, _, _, _ => none
  | n + 1, M, v0, v2, v3, v4, v5 =>
    if v5 < 0 then
      (k91 M v0 v2 v4)
    else
      rhck (Γ.2.2.1 v0 = 13) <|
      rhck (¬ (v2 - v5) = 0) <|
      rhck (Γ.2.2.1 (M.2.2 v0 41) = 15) <|
      rhck (0 ≤ (v5).toInt ∧ (v5).toInt < (Γ.2.2.2 (M.2.2 v0 41) : Nat)) <|
      let M22 := rhsi M (M.2.2 v0 41) (v5 : Int32).toNatClampNeg (v3 - v3 / (v2 - v5) * (v2 - v5))
      rhck (¬ (v2 - v5) = 0) <|
      let x24 := v3 / (v2 - v5)
      let x25 : Int32 := v5 + (-1)
      f_X12_layState_60 k91 Γ n M22 v0 v2 x24 v4 x25
def f_X12_layState_146 (k112 : rhM → Nat → Int32 → Int32 → Int32 → Int32 → Int32 → Option (rhM)) (Γ : rhG) (M : rhM) (v0 : Nat) (v2 : Int32) (v4 : Int32) (v5 : Int32) (v6 : Int32) (s0 : Int32) (s1 : Int32) : Option (rhM) :=
  let x33 := s0 - s1
  let x34 : Int32 := v6 + 1
  k112 M v0 v2 v4 v5 x34 x33
def f_X12_layState_128 (k112 : rhM → Nat → Int32 → Int32 → Int32 → Int32 → Int32 → Option (rhM)) (Γ : rhG) (M : rhM) (v0 : Nat) (v2 : Int32) (v4 : Int32) (v5 : Int32) (v6 : Int32) (v7 : Int32) : Option (rhM) :=
  if ((v4 >>> (v6 &&& 31)) &&& 1) = 1 then
    (f_X12_layState_146 k112 Γ M v0 v2 v4 v5 v6 v7 0)
  else
    f_X12_layState_146 k112 Γ M v0 v2 v4 v5 v6 v7 1
def f_X12_layState_112 (k155 : rhM → Nat → Int32 → Int32 → Int32 → Int32 → Option (rhM)) (Γ : rhG) : Nat → rhM → Nat → Int32 → Int32 → Int32 → Int32 → Int32 → Option (rhM)
  | 0, _, _, _, _, _, _, _ => none
  | n + 1, M, v0, v2, v4, v5, v6, v7 =>
    if ((v4 >>> (v6 &&& 31)) &&& 1) = 1 then
      (f_X12_layState_128 (f_X12_layState_112 k155 Γ n) Γ M v0 v2 v4 v5 v6 v7)
    else
      if 0 < v7 then
        (f_X12_layState_128 (f_X12_layState_112 k155 Γ n) Γ M v0 v2 v4 v5 v6 v7)
      else
        k155 M v0 v2 v4 v5 v6
def f_X12_layState_155 (k94 : rhM → Nat → Int32 → Int32 → Int32 → Option (rhM)) (Γ : rhG) (M : rhM) (v0 : Nat) (v2 : Int32) (v4 : Int32) (v5 : Int32) (v6 : Int32) : Option (rhM) :=
  rhck (Γ.2.2.1 v0 = 13) <|
  rhck (Γ.2.2.1 (M.2.2 v0 39) = 15) <|
  rhck (0 ≤ (v5).toInt ∧ (v5).toInt < (Γ.2.2.2 (M.2.2 v0 39) : Nat)) <|
  let M39 := rhsi M (M.2.2 v0 39) (v5 : Int32).toNatClampNeg v6
  let x40 := v4 ||| (1 <<< (v6 &&& 31))
  let x41 : Int32 := v5 + 1
  k94 M39 v0 v2 x40 x41
def f_X12_layState_94 (Γ : rhG) : Nat → rhM → Nat → Int32 → Int32 → Int32 → Option (rhM)
  | 0, _, _, _, _, _ => none
  | n + 1, M, v0, v2, v4, v5 =>
    if v5 < v2 then
      (rhck (Γ.2.2.1 v0 = 13) <|
      rhck (Γ.2.2.1 (M.2.2 v0 41) = 15) <|
      rhck (0 ≤ (v5).toInt ∧ (v5).toInt < (Γ.2.2.2 (M.2.2 v0 41) : Nat)) <|
      let x30 := M.1 (M.2.2 v0 41) v5.toNatClampNeg
      f_X12_layState_112 (f_X12_layState_155 (f_X12_layState_94 Γ n) Γ) Γ rhFU M v0 v2 v4 v5 0 x30)
    else
      some M
def f_X12_layState_91 (Γ : rhG) (M : rhM) (v0 : Nat) (v2 : Int32) (v4 : Int32) : Option (rhM) :=
  f_X12_layState_94 Γ rhFU M v0 v2 v4 0
def f_X12_layState_52 (Γ : rhG) (M : rhM) (v0 : Nat) (v2 : Int32) (v3 : Int32) : Option (rhM) :=
  let x16 := v2 - 1
  f_X12_layState_60 (f_X12_layState_91 Γ) Γ rhFU M v0 v2 v3 0 x16
def f_X12_layState_37 (Γ : rhG) (M : rhM) (v0 : Nat) (v2 : Int32) (v3 : Int32) : Option (rhM) :=
  rhck (Γ.2.2.1 v0 = 13) <|
  (f_X12_railMany Γ M v0).bind fun r11 =>
  if 3 < r11 then
    (rhck (Γ.2.2.1 (M.2.2 v0 40) = 15) <|
    rhck (0 ≤ (3 : Int32).toInt ∧ (3 : Int32).toInt < (Γ.2.2.2 (M.2.2 v0 40) : Nat)) <|
    let M15 := rhsi M (M.2.2 v0 40) (3 : Int32).toNatClampNeg v2
    f_X12_layState_52 Γ M15 v0 v2 v3)
  else
    f_X12_layState_52 Γ M v0 v2 v3
def f_X12_layState (Γ : rhG) (M : rhM) (v0 : Nat) (v1 : Int32) : Option (rhM) :=
  rhck (Γ.2.2.1 v0 = 13) <|
  (f_X12_houseMany Γ M v0).bind fun r2 =>
  f_X12_layState_10 (f_X12_layState_37 Γ) Γ rhFU M v0 r2 v1 2
set_option maxHeartbeats 4000000 in
set_option maxRecDepth 100000 in
theorem b_X12_layState_10 {E : rhE} {Γ : rhG} {k37 : rhM → Nat → Int32 → Int32 → Option (rhM)} (hk37 : ∀ (M : rhM) (v0 : Nat) (v2 : Int32) (v3 : Int32), rhF E 5 8 yX12_layState cX12_layState none Γ (rhe1U Γ) (k37 M v0 v2 v3) 37 [(0, rhR v0), (2, rhI v2), (3, rhI v3)] [] Γ M) : ∀ (n : Nat) (M : rhM) (v0 : Nat) (v2 : Int32) (v3 : Int32) (v4 : Int32), rhF E 5 8 yX12_layState cX12_layState none Γ (rhe1U Γ) (f_X12_layState_10 k37 Γ n M v0 v2 v3 v4) 10 [(0, rhR v0), (2, rhI v2), (3, rhI v3), (4, rhI v4)] [] Γ M := by
  intro n
  induction n with
  | zero => intro M v0 v2 v3 v4; rw [f_X12_layState_10]; exact rhF.nope
  | succ n ih =>
    intro M v0 v2 v3 v4
    rw [f_X12_layState_10]
    refine rhF.iload (pc := 10) dX12_layState_10 3 rfl ?_
    refine rhF.if_lt (pc := 12) 37 dX12_layState_12 (by decide) (fun h3 => ?_) (fun h3 => ?_)
    · refine rhF.sub [0, 1, 2] rfl ?_
      exact hk37 _ _ _ _
    · refine rhF.aload_n (pc := 15) dX12_layState_15 0 rfl ?_
      refine rhF.ck (fun h4 => ?_)
      refine rhF.get (pc := 16) (rhR _) dX12_layState_16 fl_X12_95 h4 rfl ?_
      refine rhF.iload (pc := 19) dX12_layState_19 3 rfl ?_
      refine rhF.iload_n (pc := 21) dX12_layState_21 2 rfl ?_
      refine rhF.bipush (pc := 22) (v := 7) dX12_layState_22 (by decide) ?_
      refine rhF.iremc (pc := 24) dX12_layState_24 (by decide) ?_
      refine rhF.ck (fun h5 => ?_)
      refine rhF.ck (fun h6 => ?_)
      refine rhF.iast (pc := 25) dX12_layState_25 h5 h6 ?_
      refine rhF.iload_n (pc := 26) dX12_layState_26 2 rfl ?_
      refine rhF.bipush (pc := 27) (v := 7) dX12_layState_27 (by decide) ?_
      refine rhF.idivc (pc := 29) dX12_layState_29 (by decide) ?_
      refine rhF.istore_n (pc := 30) (L' := [(3, rhI _), (0, rhR _), (2, rhI _), (4, rhI _)]) dX12_layState_30 (by decide) rfl ?_
      refine rhF.iinc (pc := 31) (L' := [(4, rhI _), (3, rhI _), (0, rhR _), (2, rhI _)]) dX12_layState_31 3 rfl rfl (by decide) rfl ?_
      refine rhF.goto (pc := 34) 10 dX12_layState_34 (by decide) ?_
      refine rhF.sub [2, 3, 1, 0] rfl ?_
      exact ih _ _ _ _ _
set_option maxHeartbeats 4000000 in
set_option maxRecDepth 100000 in
theorem b_X12_layState_60 {E : rhE} {Γ : rhG} {k91 : rhM → Nat → Int32 → Int32 → Option (rhM)} (hk91 : ∀ (M : rhM) (v0 : Nat) (v2 : Int32) (v4 : Int32), rhF E 5 8 yX12_layState cX12_layState none Γ (rhe1U Γ) (k91 M v0 v2 v4) 91 [(0, rhR v0), (2, rhI v2), (4, rhI v4)] [] Γ M) : ∀ (n : Nat) (M : rhM) (v0 : Nat) (v2 : Int32) (v3 : Int32) (v4 : Int32) (v5 : Int32), rhF E 5 8 yX12_layState cX12_layState none Γ (rhe1U Γ) (f_X12_layState_60 k91 Γ n M v0 v2 v3 v4 v5) 60 [(0, rhR v0), (2, rhI v2), (3, rhI v3), (4, rhI v4), (5, rhI v5)] [] Γ M := by
  intro n
  induction n with
  | zero => intro M v0 v2 v3 v4 v5; rw [f_X12_layState_60]; exact rhF.nope
  | succ n ih =>
    intro M v0 v2 v3 v4 v5
    rw [f_X12_layState_60]
    refine rhF.iload (pc := 60) dX12_layState_60 4 rfl ?_
    refine rhF.if_lt (pc := 62) 91 dX12_layState_62 (by decide) (fun h17 => ?_) (fun h17 => ?_)
    · refine rhF.sub [0, 1, 3] rfl ?_
      exact hk91 _ _ _ _
    · refine rhF.aload_n (pc := 65) dX12_layState_65 0 rfl ?_
      refine rhF.ck (fun h18 => ?_)
      refine rhF.get (pc := 66) (rhR _) dX12_layState_66 fl_X12_98 h18 rfl ?_
      refine rhF.iload (pc := 69) dX12_layState_69 4 rfl ?_
      refine rhF.iload_n (pc := 71) dX12_layState_71 2 rfl ?_
      refine rhF.iload_n (pc := 72) dX12_layState_72 1 rfl ?_
      refine rhF.iload (pc := 73) dX12_layState_73 4 rfl ?_
      refine rhF.isub (pc := 75) dX12_layState_75 ?_
      refine rhF.ck (fun h19 => ?_)
      refine rhF.iremc (pc := 76) dX12_layState_76 h19 ?_
      refine rhF.ck (fun h20 => ?_)
      refine rhF.ck (fun h21 => ?_)
      refine rhF.iast (pc := 77) dX12_layState_77 h20 h21 ?_
      refine rhF.iload_n (pc := 78) dX12_layState_78 2 rfl ?_
      refine rhF.iload_n (pc := 79) dX12_layState_79 1 rfl ?_
      refine rhF.iload (pc := 80) dX12_layState_80 4 rfl ?_
      refine rhF.isub (pc := 82) dX12_layState_82 ?_
      refine rhF.ck (fun h23 => ?_)
      refine rhF.idivc (pc := 83) dX12_layState_83 h23 ?_
      refine rhF.istore_n (pc := 84) (L' := [(3, rhI _), (0, rhR _), (2, rhI _), (4, rhI _), (5, rhI _)]) dX12_layState_84 (by decide) rfl ?_
      refine rhF.iinc (pc := 85) (L' := [(5, rhI _), (3, rhI _), (0, rhR _), (2, rhI _), (4, rhI _)]) dX12_layState_85 4 rfl rfl (by decide) rfl ?_
      refine rhF.goto (pc := 88) 60 dX12_layState_88 (by decide) ?_
      refine rhF.sub [2, 3, 1, 4, 0] rfl ?_
      exact ih _ _ _ _ _ _
set_option maxHeartbeats 4000000 in
set_option maxRecDepth 100000 in
theorem b_X12_layState_146 {E : rhE} {Γ : rhG} {k112 : rhM → Nat → Int32 → Int32 → Int32 → Int32 → Int32 → Option (rhM)} (hk112 : ∀ (M : rhM) (v0 : Nat) (v2 : Int32) (v4 : Int32) (v5 : Int32) (v6 : Int32) (v7 : Int32), rhF E 5 8 yX12_layState cX12_layState none Γ (rhe1U Γ) (k112 M v0 v2 v4 v5 v6 v7) 112 [(0, rhR v0), (2, rhI v2), (4, rhI v4), (5, rhI v5), (6, rhI v6), (7, rhI v7)] [] Γ M) : ∀ (M : rhM) (v0 : Nat) (v2 : Int32) (v4 : Int32) (v5 : Int32) (v6 : Int32) (s0 : Int32) (s1 : Int32), rhF E 5 8 yX12_layState cX12_layState none Γ (rhe1U Γ) (f_X12_layState_146 k112 Γ M v0 v2 v4 v5 v6 s0 s1) 146 [(0, rhR v0), (2, rhI v2), (4, rhI v4), (5, rhI v5), (6, rhI v6)] [rhI s1, rhI s0] Γ M := by
  intro M v0 v2 v4 v5 v6 s0 s1
  rw [f_X12_layState_146]
  refine rhF.isub (pc := 146) dX12_layState_146 ?_
  refine rhF.istore (pc := 147) (L' := [(7, rhI _), (0, rhR _), (2, rhI _), (4, rhI _), (5, rhI _), (6, rhI _)]) dX12_layState_147 (by decide) rfl ?_
  refine rhF.iinc (pc := 149) (L' := [(6, rhI _), (7, rhI _), (0, rhR _), (2, rhI _), (4, rhI _), (5, rhI _)]) dX12_layState_149 5 rfl rfl (by decide) rfl ?_
  refine rhF.goto (pc := 152) 112 dX12_layState_152 (by decide) ?_
  refine rhF.sub [2, 3, 4, 5, 0, 1] rfl ?_
  exact hk112 _ _ _ _ _ _ _
set_option maxHeartbeats 4000000 in
set_option maxRecDepth 100000 in
theorem b_X12_layState_128 {E : rhE} {Γ : rhG} {k112 : rhM → Nat → Int32 → Int32 → Int32 → Int32 → Int32 → Option (rhM)} (hk112 : ∀ (M : rhM) (v0 : Nat) (v2 : Int32) (v4 : Int32) (v5 : Int32) (v6 : Int32) (v7 : Int32), rhF E 5 8 yX12_layState cX12_layState none Γ (rhe1U Γ) (k112 M v0 v2 v4 v5 v6 v7) 112 [(0, rhR v0), (2, rhI v2), (4, rhI v4), (5, rhI v5), (6, rhI v6), (7, rhI v7)] [] Γ M) : ∀ (M : rhM) (v0 : Nat) (v2 : Int32) (v4 : Int32) (v5 : Int32) (v6 : Int32) (v7 : Int32), rhF E 5 8 yX12_layState cX12_layState none Γ (rhe1U Γ) (f_X12_layState_128 k112 Γ M v0 v2 v4 v5 v6 v7) 128 [(0, rhR v0), (2, rhI v2), (4, rhI v4), (5, rhI v5), (6, rhI v6), (7, rhI v7)] [] Γ M := by
  intro M v0 v2 v4 v5 v6 v7
  rw [f_X12_layState_128]
  refine rhF.iload (pc := 128) dX12_layState_128 5 rfl ?_
  refine rhF.iload (pc := 130) dX12_layState_130 2 rfl ?_
  refine rhF.iload (pc := 132) dX12_layState_132 4 rfl ?_
  refine rhF.ishr (pc := 134) dX12_layState_134 ?_
  refine rhF.iconst (pc := 135) (v := 1) dX12_layState_135 (by decide) ?_
  refine rhF.iand (pc := 136) dX12_layState_136 ?_
  refine rhF.iconst (pc := 137) (v := 1) dX12_layState_137 (by decide) ?_
  refine rhF.icmp_ne (pc := 138) 145 dX12_layState_138 (by decide) (fun h32 => ?_) (fun h32 => ?_)
  · refine rhF.iconst (pc := 141) (v := 0) dX12_layState_141 (by decide) ?_
    refine rhF.goto (pc := 142) 146 dX12_layState_142 (by decide) ?_
    refine rhF.sub [0, 1, 2, 3, 4] rfl ?_
    exact (b_X12_layState_146 hk112) _ _ _ _ _ _ _ _
  · refine rhF.iconst (pc := 145) (v := 1) dX12_layState_145 (by decide) ?_
    refine rhF.sub [0, 1, 2, 3, 4] rfl ?_
    exact (b_X12_layState_146 hk112) _ _ _ _ _ _ _ _
set_option maxHeartbeats 4000000 in
set_option maxRecDepth 100000 in
theorem b_X12_layState_112 {E : rhE} {Γ : rhG} {k155 : rhM → Nat → Int32 → Int32 → Int32 → Int32 → Option (rhM)} (hk155 : ∀ (M : rhM) (v0 : Nat) (v2 : Int32) (v4 : Int32) (v5 : Int32) (v6 : Int32), rhF E 5 8 yX12_layState cX12_layState none Γ (rhe1U Γ) (k155 M v0 v2 v4 v5 v6) 155 [(0, rhR v0), (2, rhI v2), (4, rhI v4), (5, rhI v5), (6, rhI v6)] [] Γ M) : ∀ (n : Nat) (M : rhM) (v0 : Nat) (v2 : Int32) (v4 : Int32) (v5 : Int32) (v6 : Int32) (v7 : Int32), rhF E 5 8 yX12_layState cX12_layState none Γ (rhe1U Γ) (f_X12_layState_112 k155 Γ n M v0 v2 v4 v5 v6 v7) 112 [(0, rhR v0), (2, rhI v2), (4, rhI v4), (5, rhI v5), (6, rhI v6), (7, rhI v7)] [] Γ M := by
  intro n
  induction n with
  | zero => intro M v0 v2 v4 v5 v6 v7; rw [f_X12_layState_112]; exact rhF.nope
  | succ n ih =>
    intro M v0 v2 v4 v5 v6 v7
    rw [f_X12_layState_112]
    refine rhF.iload (pc := 112) dX12_layState_112 2 rfl ?_
    refine rhF.iload (pc := 114) dX12_layState_114 4 rfl ?_
    refine rhF.ishr (pc := 116) dX12_layState_116 ?_
    refine rhF.iconst (pc := 117) (v := 1) dX12_layState_117 (by decide) ?_
    refine rhF.iand (pc := 118) dX12_layState_118 ?_
    refine rhF.iconst (pc := 119) (v := 1) dX12_layState_119 (by decide) ?_
    refine rhF.icmp_eq (pc := 120) 128 dX12_layState_120 (by decide) (fun h31 => ?_) (fun h31 => ?_)
    · exact (b_X12_layState_128 ih) _ _ _ _ _ _ _
    · refine rhF.iload (pc := 123) dX12_layState_123 5 rfl ?_
      refine rhF.if_le (pc := 125) 155 dX12_layState_125 (by decide) (fun h35 => ?_) (fun h35 => ?_)
      · exact (b_X12_layState_128 ih) _ _ _ _ _ _ _
      · refine rhF.sub [0, 1, 2, 3, 4] rfl ?_
        exact hk155 _ _ _ _ _ _
set_option maxHeartbeats 4000000 in
set_option maxRecDepth 100000 in
theorem b_X12_layState_155 {E : rhE} {Γ : rhG} {k94 : rhM → Nat → Int32 → Int32 → Int32 → Option (rhM)} (hk94 : ∀ (M : rhM) (v0 : Nat) (v2 : Int32) (v4 : Int32) (v5 : Int32), rhF E 5 8 yX12_layState cX12_layState none Γ (rhe1U Γ) (k94 M v0 v2 v4 v5) 94 [(0, rhR v0), (2, rhI v2), (4, rhI v4), (5, rhI v5)] [] Γ M) : ∀ (M : rhM) (v0 : Nat) (v2 : Int32) (v4 : Int32) (v5 : Int32) (v6 : Int32), rhF E 5 8 yX12_layState cX12_layState none Γ (rhe1U Γ) (f_X12_layState_155 k94 Γ M v0 v2 v4 v5 v6) 155 [(0, rhR v0), (2, rhI v2), (4, rhI v4), (5, rhI v5), (6, rhI v6)] [] Γ M := by
  intro M v0 v2 v4 v5 v6
  rw [f_X12_layState_155]
  refine rhF.aload_n (pc := 155) dX12_layState_155 0 rfl ?_
  refine rhF.ck (fun h36 => ?_)
  refine rhF.get (pc := 156) (rhR _) dX12_layState_156 fl_X12_92 h36 rfl ?_
  refine rhF.iload (pc := 159) dX12_layState_159 3 rfl ?_
  refine rhF.iload (pc := 161) dX12_layState_161 4 rfl ?_
  refine rhF.ck (fun h37 => ?_)
  refine rhF.ck (fun h38 => ?_)
  refine rhF.iast (pc := 163) dX12_layState_163 h37 h38 ?_
  refine rhF.iload (pc := 164) dX12_layState_164 2 rfl ?_
  refine rhF.iconst (pc := 166) (v := 1) dX12_layState_166 (by decide) ?_
  refine rhF.iload (pc := 167) dX12_layState_167 4 rfl ?_
  refine rhF.ishl (pc := 169) dX12_layState_169 ?_
  refine rhF.ior (pc := 170) dX12_layState_170 ?_
  refine rhF.istore (pc := 171) (L' := [(4, rhI _), (0, rhR _), (2, rhI _), (5, rhI _), (6, rhI _)]) dX12_layState_171 (by decide) rfl ?_
  refine rhF.iinc (pc := 173) (L' := [(5, rhI _), (4, rhI _), (0, rhR _), (2, rhI _), (6, rhI _)]) dX12_layState_173 3 rfl rfl (by decide) rfl ?_
  refine rhF.goto (pc := 176) 94 dX12_layState_176 (by decide) ?_
  refine rhF.sub [2, 3, 1, 0] rfl ?_
  exact hk94 _ _ _ _ _
set_option maxHeartbeats 4000000 in
set_option maxRecDepth 100000 in
theorem b_X12_layState_94 {E : rhE} {Γ : rhG} : ∀ (n : Nat) (M : rhM) (v0 : Nat) (v2 : Int32) (v4 : Int32) (v5 : Int32), rhF E 5 8 yX12_layState cX12_layState none Γ (rhe1U Γ) (f_X12_layState_94 Γ n M v0 v2 v4 v5) 94 [(0, rhR v0), (2, rhI v2), (4, rhI v4), (5, rhI v5)] [] Γ M := by
  intro n
  induction n with
  | zero => intro M v0 v2 v4 v5; rw [f_X12_layState_94]; exact rhF.nope
  | succ n ih =>
    intro M v0 v2 v4 v5
    rw [f_X12_layState_94]
    refine rhF.iload (pc := 94) dX12_layState_94 3 rfl ?_
    refine rhF.iload_n (pc := 96) dX12_layState_96 1 rfl ?_
    refine rhF.icmp_ge (pc := 97) 179 dX12_layState_97 (by decide) (fun h26 => ?_) (fun h26 => ?_)
    · refine rhF.iconst (pc := 100) (v := 0) dX12_layState_100 (by decide) ?_
      refine rhF.istore (pc := 101) (L' := [(6, rhI _), (0, rhR _), (2, rhI _), (4, rhI _), (5, rhI _)]) dX12_layState_101 (by decide) rfl ?_
      refine rhF.aload_n (pc := 103) dX12_layState_103 1 rfl ?_
      refine rhF.ck (fun h27 => ?_)
      refine rhF.get (pc := 104) (rhR _) dX12_layState_104 fl_X12_98 h27 rfl ?_
      refine rhF.iload (pc := 107) dX12_layState_107 4 rfl ?_
      refine rhF.ck (fun h28 => ?_)
      refine rhF.ck (fun h29 => ?_)
      refine rhF.iald (pc := 109) dX12_layState_109 h28 h29 ?_
      refine rhF.istore (pc := 110) (L' := [(7, rhI _), (6, rhI _), (0, rhR _), (2, rhI _), (4, rhI _), (5, rhI _)]) dX12_layState_110 (by decide) rfl ?_
      refine rhF.sub [2, 3, 4, 5, 1, 0] rfl ?_
      exact (b_X12_layState_112 (b_X12_layState_155 ih) rhFU) _ _ _ _ _ _ _
    · exact rhF.vret (pc := 179) dX12_layState_179 rfl rfl
set_option maxHeartbeats 4000000 in
set_option maxRecDepth 100000 in
theorem b_X12_layState_91 {E : rhE} {Γ : rhG} : ∀ (M : rhM) (v0 : Nat) (v2 : Int32) (v4 : Int32), rhF E 5 8 yX12_layState cX12_layState none Γ (rhe1U Γ) (f_X12_layState_91 Γ M v0 v2 v4) 91 [(0, rhR v0), (2, rhI v2), (4, rhI v4)] [] Γ M := by
  intro M v0 v2 v4
  rw [f_X12_layState_91]
  refine rhF.iconst (pc := 91) (v := 0) dX12_layState_91 (by decide) ?_
  refine rhF.istore (pc := 92) (L' := [(5, rhI _), (0, rhR _), (2, rhI _), (4, rhI _)]) dX12_layState_92 (by decide) rfl ?_
  refine rhF.sub [1, 2, 3, 0] rfl ?_
  exact (b_X12_layState_94 rhFU) _ _ _ _ _
set_option maxHeartbeats 4000000 in
set_option maxRecDepth 100000 in
theorem b_X12_layState_52 {E : rhE} {Γ : rhG} : ∀ (M : rhM) (v0 : Nat) (v2 : Int32) (v3 : Int32), rhF E 5 8 yX12_layState cX12_layState none Γ (rhe1U Γ) (f_X12_layState_52 Γ M v0 v2 v3) 52 [(0, rhR v0), (2, rhI v2), (3, rhI v3)] [] Γ M := by
  intro M v0 v2 v3
  rw [f_X12_layState_52]
  refine rhF.iconst (pc := 52) (v := 0) dX12_layState_52 (by decide) ?_
  refine rhF.istore (pc := 53) (L' := [(4, rhI _), (0, rhR _), (2, rhI _), (3, rhI _)]) dX12_layState_53 (by decide) rfl ?_
  refine rhF.iload_n (pc := 55) dX12_layState_55 2 rfl ?_
  refine rhF.iconst (pc := 56) (v := 1) dX12_layState_56 (by decide) ?_
  refine rhF.isub (pc := 57) dX12_layState_57 ?_
  refine rhF.istore (pc := 58) (L' := [(5, rhI _), (4, rhI _), (0, rhR _), (2, rhI _), (3, rhI _)]) dX12_layState_58 (by decide) rfl ?_
  refine rhF.sub [2, 3, 4, 1, 0] rfl ?_
  exact (b_X12_layState_60 (b_X12_layState_91) rhFU) _ _ _ _ _ _
set_option maxHeartbeats 4000000 in
set_option maxRecDepth 100000 in
theorem b_X12_layState_37 {E : rhE} {Γ : rhG} : ∀ (M : rhM) (v0 : Nat) (v2 : Int32) (v3 : Int32), rhF E 5 8 yX12_layState cX12_layState none Γ (rhe1U Γ) (f_X12_layState_37 Γ M v0 v2 v3) 37 [(0, rhR v0), (2, rhI v2), (3, rhI v3)] [] Γ M := by
  intro M v0 v2 v3
  rw [f_X12_layState_37]
  refine rhF.aload_n (pc := 37) dX12_layState_37 0 rfl ?_
  refine rhF.ck (fun h10 => ?_)
  refine rhF.callV (pc := 38) (ci := 12) (embc := rhe0I _ _) [] dX12_layState_38 ml_X12_412 mv_X12_railMany ⟨_, rfl, rfl⟩ h10 (c_X12_railMany _ _ _ _) (by decide) (by decide) rfl (Nat.le_of_ble_eq_true rfl) (fun r11 _ => ?_)
  refine rhF.iconst (pc := 41) (v := 3) dX12_layState_41 (by decide) ?_
  refine rhF.icmp_le (pc := 42) 52 dX12_layState_42 (by decide) (fun h12 => ?_) (fun h12 => ?_)
  · refine rhF.aload_n (pc := 45) dX12_layState_45 0 rfl ?_
    refine rhF.get (pc := 46) (rhR _) dX12_layState_46 fl_X12_95 h10 rfl ?_
    refine rhF.iconst (pc := 49) (v := 3) dX12_layState_49 (by decide) ?_
    refine rhF.iload_n (pc := 50) dX12_layState_50 1 rfl ?_
    refine rhF.ck (fun h13 => ?_)
    refine rhF.ck (fun h14 => ?_)
    refine rhF.iast (pc := 51) dX12_layState_51 h13 h14 ?_
    exact (b_X12_layState_52) _ _ _ _
  · exact (b_X12_layState_52) _ _ _ _
set_option maxHeartbeats 4000000 in
set_option maxRecDepth 100000 in
theorem b_X12_layState {E : rhE} {Γ : rhG} : ∀ (M : rhM) (v0 : Nat) (v1 : Int32), rhF E 5 8 yX12_layState cX12_layState none Γ (rhe1U Γ) (f_X12_layState Γ M v0 v1) 0 [(0, rhR v0), (1, rhI v1)] [] Γ M := by
  intro M v0 v1
  rw [f_X12_layState]
  refine rhF.aload_n (pc := 0) dX12_layState_0 0 rfl ?_
  refine rhF.ck (fun h1 => ?_)
  refine rhF.callV (pc := 1) (ci := 12) (embc := rhe0I _ _) [] dX12_layState_1 ml_X12_419 mv_X12_houseMany ⟨_, rfl, rfl⟩ h1 (c_X12_houseMany _ _ _ _) (by decide) (by decide) rfl (Nat.le_of_ble_eq_true rfl) (fun r2 _ => ?_)
  refine rhF.istore_n (pc := 4) (L' := [(2, rhI _), (0, rhR _), (1, rhI _)]) dX12_layState_4 (by decide) rfl ?_
  refine rhF.iload_n (pc := 5) dX12_layState_5 2 rfl ?_
  refine rhF.istore_n (pc := 6) (L' := [(3, rhI _), (2, rhI _), (0, rhR _), (1, rhI _)]) dX12_layState_6 (by decide) rfl ?_
  refine rhF.iconst (pc := 7) (v := 2) dX12_layState_7 (by decide) ?_
  refine rhF.istore (pc := 8) (L' := [(4, rhI _), (3, rhI _), (2, rhI _), (0, rhR _), (1, rhI _)]) dX12_layState_8 (by decide) rfl ?_
  refine rhF.sub [3, 2, 1, 0] rfl ?_
  exact (b_X12_layState_10 (b_X12_layState_37) rhFU) _ _ _ _ _
theorem c_X12_layState (E : rhE) (Γ : rhG) (M : rhM) (v0 : Nat) (v1 : Int32) : ∀ a, f_X12_layState Γ M v0 v1 = some a → rhC E 5 yX12_layState cX12_layState 8 none [rhR v0, rhI v1] Γ M ((rhe1U Γ) a) := rhF.met (by decide +kernel) (Nat.le_of_ble_eq_true rfl) (b_X12_layState M v0 v1)
def f_X12_keepAt_2 (k26 : rhM → Nat → Option (rhM)) (Γ : rhG) : Nat → rhM → Nat → Int32 → Option (rhM)
  | 0, _, _, _ => none
  | n + 1, M, v0, v1 =>
    if v1 < 8 then
      (rhck (Γ.2.2.1 v0 = 13) <|
      rhck (Γ.2.2.1 (M.2.2 v0 39) = 15) <|
      rhck (0 ≤ (v1).toInt ∧ (v1).toInt < (Γ.2.2.2 (M.2.2 v0 39) : Nat)) <|
      rhck (Γ.2.2.1 (M.2.2 v0 63) = 15) <|
      rhck (0 ≤ (v1).toInt ∧ (v1).toInt < (Γ.2.2.2 (M.2.2 v0 63) : Nat)) <|
      let M7 := rhsi M (M.2.2 v0 63) (v1 : Int32).toNatClampNeg (M.1 (M.2.2 v0 39) v1.toNatClampNeg)
      let x8 : Int32 := v1 + 1
      f_X12_keepAt_2 k26 Γ n M7 v0 x8)
    else
      k26 M v0
def f_X12_keepAt_28 (Γ : rhG) : Nat → rhM → Nat → Int32 → Option (rhM)
  | 0, _, _, _ => none
  | n + 1, M, v0, v1 =>
    if v1 < 5 then
      (rhck (Γ.2.2.1 v0 = 13) <|
      rhck (Γ.2.2.1 (M.2.2 v0 40) = 15) <|
      rhck (0 ≤ (v1).toInt ∧ (v1).toInt < (Γ.2.2.2 (M.2.2 v0 40) : Nat)) <|
      rhck (Γ.2.2.1 (M.2.2 v0 64) = 15) <|
      rhck (0 ≤ (v1).toInt ∧ (v1).toInt < (Γ.2.2.2 (M.2.2 v0 64) : Nat)) <|
      let M15 := rhsi M (M.2.2 v0 64) (v1 : Int32).toNatClampNeg (M.1 (M.2.2 v0 40) v1.toNatClampNeg)
      let x16 : Int32 := v1 + 1
      f_X12_keepAt_28 Γ n M15 v0 x16)
    else
      some M
def f_X12_keepAt_26 (Γ : rhG) (M : rhM) (v0 : Nat) : Option (rhM) :=
  f_X12_keepAt_28 Γ rhFU M v0 0
def f_X12_keepAt (Γ : rhG) (M : rhM) (v0 : Nat) : Option (rhM) :=
  f_X12_keepAt_2 (f_X12_keepAt_26 Γ) Γ rhFU M v0 0
set_option maxHeartbeats 4000000 in
set_option maxRecDepth 100000 in
theorem b_X12_keepAt_2 {E : rhE} {Γ : rhG} {k26 : rhM → Nat → Option (rhM)} (hk26 : ∀ (M : rhM) (v0 : Nat), rhF E 1 2 yX12_keepAt cX12_keepAt none Γ (rhe1U Γ) (k26 M v0) 26 [(0, rhR v0)] [] Γ M) : ∀ (n : Nat) (M : rhM) (v0 : Nat) (v1 : Int32), rhF E 1 2 yX12_keepAt cX12_keepAt none Γ (rhe1U Γ) (f_X12_keepAt_2 k26 Γ n M v0 v1) 2 [(0, rhR v0), (1, rhI v1)] [] Γ M := by
  intro n
  induction n with
  | zero => intro M v0 v1; rw [f_X12_keepAt_2]; exact rhF.nope
  | succ n ih =>
    intro M v0 v1
    rw [f_X12_keepAt_2]
    refine rhF.iload_n (pc := 2) dX12_keepAt_2 1 rfl ?_
    refine rhF.bipush (pc := 3) (v := 8) dX12_keepAt_3 (by decide) ?_
    refine rhF.icmp_ge (pc := 5) 26 dX12_keepAt_5 (by decide) (fun h1 => ?_) (fun h1 => ?_)
    · refine rhF.aload_n (pc := 8) dX12_keepAt_8 0 rfl ?_
      refine rhF.ck (fun h2 => ?_)
      refine rhF.get (pc := 9) (rhR _) dX12_keepAt_9 fl_X12_142 h2 rfl ?_
      refine rhF.iload_n (pc := 12) dX12_keepAt_12 1 rfl ?_
      refine rhF.aload_n (pc := 13) dX12_keepAt_13 0 rfl ?_
      refine rhF.get (pc := 14) (rhR _) dX12_keepAt_14 fl_X12_92 h2 rfl ?_
      refine rhF.iload_n (pc := 17) dX12_keepAt_17 1 rfl ?_
      refine rhF.ck (fun h3 => ?_)
      refine rhF.ck (fun h4 => ?_)
      refine rhF.iald (pc := 18) dX12_keepAt_18 h3 h4 ?_
      refine rhF.ck (fun h5 => ?_)
      refine rhF.ck (fun h6 => ?_)
      refine rhF.iast (pc := 19) dX12_keepAt_19 h5 h6 ?_
      refine rhF.iinc (pc := 20) (L' := [(1, rhI _), (0, rhR _)]) dX12_keepAt_20 1 rfl rfl (by decide) rfl ?_
      refine rhF.goto (pc := 23) 2 dX12_keepAt_23 (by decide) ?_
      refine rhF.sub [1, 0] rfl ?_
      exact ih _ _ _
    · refine rhF.sub [0] rfl ?_
      exact hk26 _ _
set_option maxHeartbeats 4000000 in
set_option maxRecDepth 100000 in
theorem b_X12_keepAt_28 {E : rhE} {Γ : rhG} : ∀ (n : Nat) (M : rhM) (v0 : Nat) (v1 : Int32), rhF E 1 2 yX12_keepAt cX12_keepAt none Γ (rhe1U Γ) (f_X12_keepAt_28 Γ n M v0 v1) 28 [(0, rhR v0), (1, rhI v1)] [] Γ M := by
  intro n
  induction n with
  | zero => intro M v0 v1; rw [f_X12_keepAt_28]; exact rhF.nope
  | succ n ih =>
    intro M v0 v1
    rw [f_X12_keepAt_28]
    refine rhF.iload_n (pc := 28) dX12_keepAt_28 1 rfl ?_
    refine rhF.iconst (pc := 29) (v := 5) dX12_keepAt_29 (by decide) ?_
    refine rhF.icmp_ge (pc := 30) 51 dX12_keepAt_30 (by decide) (fun h9 => ?_) (fun h9 => ?_)
    · refine rhF.aload_n (pc := 33) dX12_keepAt_33 0 rfl ?_
      refine rhF.ck (fun h10 => ?_)
      refine rhF.get (pc := 34) (rhR _) dX12_keepAt_34 fl_X12_145 h10 rfl ?_
      refine rhF.iload_n (pc := 37) dX12_keepAt_37 1 rfl ?_
      refine rhF.aload_n (pc := 38) dX12_keepAt_38 0 rfl ?_
      refine rhF.get (pc := 39) (rhR _) dX12_keepAt_39 fl_X12_95 h10 rfl ?_
      refine rhF.iload_n (pc := 42) dX12_keepAt_42 1 rfl ?_
      refine rhF.ck (fun h11 => ?_)
      refine rhF.ck (fun h12 => ?_)
      refine rhF.iald (pc := 43) dX12_keepAt_43 h11 h12 ?_
      refine rhF.ck (fun h13 => ?_)
      refine rhF.ck (fun h14 => ?_)
      refine rhF.iast (pc := 44) dX12_keepAt_44 h13 h14 ?_
      refine rhF.iinc (pc := 45) (L' := [(1, rhI _), (0, rhR _)]) dX12_keepAt_45 1 rfl rfl (by decide) rfl ?_
      refine rhF.goto (pc := 48) 28 dX12_keepAt_48 (by decide) ?_
      refine rhF.sub [1, 0] rfl ?_
      exact ih _ _ _
    · exact rhF.vret (pc := 51) dX12_keepAt_51 rfl rfl
set_option maxHeartbeats 4000000 in
set_option maxRecDepth 100000 in
theorem b_X12_keepAt_26 {E : rhE} {Γ : rhG} : ∀ (M : rhM) (v0 : Nat), rhF E 1 2 yX12_keepAt cX12_keepAt none Γ (rhe1U Γ) (f_X12_keepAt_26 Γ M v0) 26 [(0, rhR v0)] [] Γ M := by
  intro M v0
  rw [f_X12_keepAt_26]
  refine rhF.iconst (pc := 26) (v := 0) dX12_keepAt_26 (by decide) ?_
  refine rhF.istore_n (pc := 27) (L' := [(1, rhI _), (0, rhR _)]) dX12_keepAt_27 (by decide) rfl ?_
  refine rhF.sub [1, 0] rfl ?_
  exact (b_X12_keepAt_28 rhFU) _ _ _
set_option maxHeartbeats 4000000 in
set_option maxRecDepth 100000 in
theorem b_X12_keepAt {E : rhE} {Γ : rhG} : ∀ (M : rhM) (v0 : Nat), rhF E 1 2 yX12_keepAt cX12_keepAt none Γ (rhe1U Γ) (f_X12_keepAt Γ M v0) 0 [(0, rhR v0)] [] Γ M := by
  intro M v0
  rw [f_X12_keepAt]
  refine rhF.iconst (pc := 0) (v := 0) dX12_keepAt_0 (by decide) ?_
  refine rhF.istore_n (pc := 1) (L' := [(1, rhI _), (0, rhR _)]) dX12_keepAt_1 (by decide) rfl ?_
  refine rhF.sub [1, 0] rfl ?_
  exact (b_X12_keepAt_2 (b_X12_keepAt_26) rhFU) _ _ _
theorem c_X12_keepAt (E : rhE) (Γ : rhG) (M : rhM) (v0 : Nat) : ∀ a, f_X12_keepAt Γ M v0 = some a → rhC E 1 yX12_keepAt cX12_keepAt 2 none [rhR v0] Γ M ((rhe1U Γ) a) := rhF.met (by decide +kernel) (Nat.le_of_ble_eq_true rfl) (b_X12_keepAt M v0)
def f_X12_layAt_2 (k26 : rhM → Nat → Option (rhM)) (Γ : rhG) : Nat → rhM → Nat → Int32 → Option (rhM)
  | 0, _, _, _ => none
  | n + 1, M, v0, v1 =>
    if v1 < 8 then
      (rhck (Γ.2.2.1 v0 = 13) <|
      rhck (Γ.2.2.1 (M.2.2 v0 63) = 15) <|
      rhck (0 ≤ (v1).toInt ∧ (v1).toInt < (Γ.2.2.2 (M.2.2 v0 63) : Nat)) <|
      rhck (Γ.2.2.1 (M.2.2 v0 39) = 15) <|
      rhck (0 ≤ (v1).toInt ∧ (v1).toInt < (Γ.2.2.2 (M.2.2 v0 39) : Nat)) <|
      let M7 := rhsi M (M.2.2 v0 39) (v1 : Int32).toNatClampNeg (M.1 (M.2.2 v0 63) v1.toNatClampNeg)
      let x8 : Int32 := v1 + 1
      f_X12_layAt_2 k26 Γ n M7 v0 x8)
    else
      k26 M v0
def f_X12_layAt_28 (Γ : rhG) : Nat → rhM → Nat → Int32 → Option (rhM)
  | 0, _, _, _ => none
  | n + 1, M, v0, v1 =>
    if v1 < 5 then
      (rhck (Γ.2.2.1 v0 = 13) <|
      rhck (Γ.2.2.1 (M.2.2 v0 64) = 15) <|
      rhck (0 ≤ (v1).toInt ∧ (v1).toInt < (Γ.2.2.2 (M.2.2 v0 64) : Nat)) <|
      rhck (Γ.2.2.1 (M.2.2 v0 40) = 15) <|
      rhck (0 ≤ (v1).toInt ∧ (v1).toInt < (Γ.2.2.2 (M.2.2 v0 40) : Nat)) <|
      let M15 := rhsi M (M.2.2 v0 40) (v1 : Int32).toNatClampNeg (M.1 (M.2.2 v0 64) v1.toNatClampNeg)
      let x16 : Int32 := v1 + 1
      f_X12_layAt_28 Γ n M15 v0 x16)
    else
      some M
def f_X12_layAt_26 (Γ : rhG) (M : rhM) (v0 : Nat) : Option (rhM) :=
  f_X12_layAt_28 Γ rhFU M v0 0
def f_X12_layAt (Γ : rhG) (M : rhM) (v0 : Nat) : Option (rhM) :=
  f_X12_layAt_2 (f_X12_layAt_26 Γ) Γ rhFU M v0 0
set_option maxHeartbeats 4000000 in
set_option maxRecDepth 100000 in
theorem b_X12_layAt_2 {E : rhE} {Γ : rhG} {k26 : rhM → Nat → Option (rhM)} (hk26 : ∀ (M : rhM) (v0 : Nat), rhF E 1 2 yX12_layAt cX12_layAt none Γ (rhe1U Γ) (k26 M v0) 26 [(0, rhR v0)] [] Γ M) : ∀ (n : Nat) (M : rhM) (v0 : Nat) (v1 : Int32), rhF E 1 2 yX12_layAt cX12_layAt none Γ (rhe1U Γ) (f_X12_layAt_2 k26 Γ n M v0 v1) 2 [(0, rhR v0), (1, rhI v1)] [] Γ M := by
  intro n
  induction n with
  | zero => intro M v0 v1; rw [f_X12_layAt_2]; exact rhF.nope
  | succ n ih =>
    intro M v0 v1
    rw [f_X12_layAt_2]
    refine rhF.iload_n (pc := 2) dX12_layAt_2 1 rfl ?_
    refine rhF.bipush (pc := 3) (v := 8) dX12_layAt_3 (by decide) ?_
    refine rhF.icmp_ge (pc := 5) 26 dX12_layAt_5 (by decide) (fun h1 => ?_) (fun h1 => ?_)
    · refine rhF.aload_n (pc := 8) dX12_layAt_8 0 rfl ?_
      refine rhF.ck (fun h2 => ?_)
      refine rhF.get (pc := 9) (rhR _) dX12_layAt_9 fl_X12_92 h2 rfl ?_
      refine rhF.iload_n (pc := 12) dX12_layAt_12 1 rfl ?_
      refine rhF.aload_n (pc := 13) dX12_layAt_13 0 rfl ?_
      refine rhF.get (pc := 14) (rhR _) dX12_layAt_14 fl_X12_142 h2 rfl ?_
      refine rhF.iload_n (pc := 17) dX12_layAt_17 1 rfl ?_
      refine rhF.ck (fun h3 => ?_)
      refine rhF.ck (fun h4 => ?_)
      refine rhF.iald (pc := 18) dX12_layAt_18 h3 h4 ?_
      refine rhF.ck (fun h5 => ?_)
      refine rhF.ck (fun h6 => ?_)
      refine rhF.iast (pc := 19) dX12_layAt_19 h5 h6 ?_
      refine rhF.iinc (pc := 20) (L' := [(1, rhI _), (0, rhR _)]) dX12_layAt_20 1 rfl rfl (by decide) rfl ?_
      refine rhF.goto (pc := 23) 2 dX12_layAt_23 (by decide) ?_
      refine rhF.sub [1, 0] rfl ?_
      exact ih _ _ _
    · refine rhF.sub [0] rfl ?_
      exact hk26 _ _
set_option maxHeartbeats 4000000 in
set_option maxRecDepth 100000 in
theorem b_X12_layAt_28 {E : rhE} {Γ : rhG} : ∀ (n : Nat) (M : rhM) (v0 : Nat) (v1 : Int32), rhF E 1 2 yX12_layAt cX12_layAt none Γ (rhe1U Γ) (f_X12_layAt_28 Γ n M v0 v1) 28 [(0, rhR v0), (1, rhI v1)] [] Γ M := by
  intro n
  induction n with
  | zero => intro M v0 v1; rw [f_X12_layAt_28]; exact rhF.nope
  | succ n ih =>
    intro M v0 v1
    rw [f_X12_layAt_28]
    refine rhF.iload_n (pc := 28) dX12_layAt_28 1 rfl ?_
    refine rhF.iconst (pc := 29) (v := 5) dX12_layAt_29 (by decide) ?_
    refine rhF.icmp_ge (pc := 30) 51 dX12_layAt_30 (by decide) (fun h9 => ?_) (fun h9 => ?_)
    · refine rhF.aload_n (pc := 33) dX12_layAt_33 0 rfl ?_
      refine rhF.ck (fun h10 => ?_)
      refine rhF.get (pc := 34) (rhR _) dX12_layAt_34 fl_X12_95 h10 rfl ?_
      refine rhF.iload_n (pc := 37) dX12_layAt_37 1 rfl ?_
      refine rhF.aload_n (pc := 38) dX12_layAt_38 0 rfl ?_
      refine rhF.get (pc := 39) (rhR _) dX12_layAt_39 fl_X12_145 h10 rfl ?_
      refine rhF.iload_n (pc := 42) dX12_layAt_42 1 rfl ?_
      refine rhF.ck (fun h11 => ?_)
      refine rhF.ck (fun h12 => ?_)
      refine rhF.iald (pc := 43) dX12_layAt_43 h11 h12 ?_
      refine rhF.ck (fun h13 => ?_)
      refine rhF.ck (fun h14 => ?_)
      refine rhF.iast (pc := 44) dX12_layAt_44 h13 h14 ?_
      refine rhF.iinc (pc := 45) (L' := [(1, rhI _), (0, rhR _)]) dX12_layAt_45 1 rfl rfl (by decide) rfl ?_
      refine rhF.goto (pc := 48) 28 dX12_layAt_48 (by decide) ?_
      refine rhF.sub [1, 0] rfl ?_
      exact ih _ _ _
    · exact rhF.vret (pc := 51) dX12_layAt_51 rfl rfl
set_option maxHeartbeats 4000000 in
set_option maxRecDepth 100000 in
theorem b_X12_layAt_26 {E : rhE} {Γ : rhG} : ∀ (M : rhM) (v0 : Nat), rhF E 1 2 yX12_layAt cX12_layAt none Γ (rhe1U Γ) (f_X12_layAt_26 Γ M v0) 26 [(0, rhR v0)] [] Γ M := by
  intro M v0
  rw [f_X12_layAt_26]
  refine rhF.iconst (pc := 26) (v := 0) dX12_layAt_26 (by decide) ?_
  refine rhF.istore_n (pc := 27) (L' := [(1, rhI _), (0, rhR _)]) dX12_layAt_27 (by decide) rfl ?_
  refine rhF.sub [1, 0] rfl ?_
  exact (b_X12_layAt_28 rhFU) _ _ _
set_option maxHeartbeats 4000000 in
set_option maxRecDepth 100000 in
theorem b_X12_layAt {E : rhE} {Γ : rhG} : ∀ (M : rhM) (v0 : Nat), rhF E 1 2 yX12_layAt cX12_layAt none Γ (rhe1U Γ) (f_X12_layAt Γ M v0) 0 [(0, rhR v0)] [] Γ M := by
  intro M v0
  rw [f_X12_layAt]
  refine rhF.iconst (pc := 0) (v := 0) dX12_layAt_0 (by decide) ?_
  refine rhF.istore_n (pc := 1) (L' := [(1, rhI _), (0, rhR _)]) dX12_layAt_1 (by decide) rfl ?_
  refine rhF.sub [1, 0] rfl ?_
  exact (b_X12_layAt_2 (b_X12_layAt_26) rhFU) _ _ _
theorem c_X12_layAt (E : rhE) (Γ : rhG) (M : rhM) (v0 : Nat) : ∀ a, f_X12_layAt Γ M v0 = some a → rhC E 1 yX12_layAt cX12_layAt 2 none [rhR v0] Γ M ((rhe1U Γ) a) := rhF.met (by decide +kernel) (Nat.le_of_ble_eq_true rfl) (b_X12_layAt M v0)
def f_X12_spread_163 (k46 : rhM → Nat → Int32 → Int32 → Int32 → Int32 → Option (rhM)) (Γ : rhG) (M : rhM) (v0 : Nat) (v1 : Int32) (v2 : Int32) (v3 : Int32) (v4 : Int32) : Option (rhM) :=
  let x17 : Int32 := v4 + 1
  k46 M v0 v1 v2 v3 x17
def f_X12_spread_46 (k169 : rhM → Nat → Int32 → Int32 → Int32 → Option (rhM)) (Γ : rhG) : Nat → rhM → Nat → Int32 → Int32 → Int32 → Int32 → Option (rhM)
  | 0, _, _, _, _, _, _ => none
  | n + 1, M, v0, v1, v2, v3, v4 =>
    rhck (Γ.2.2.1 v0 = 13) <|
    (f_X12_railMany Γ M v0).bind fun r12 =>
    if v4 < r12 then
      ((f_X12_layAt Γ M v0).bind fun r14 =>
      (f_X12_isLawful Γ r14 v0 v2 v3 v4).bind fun r15 =>
      if r15.1 = 0 then
        (f_X12_spread_163 (f_X12_spread_46 k169 Γ n) Γ r15.2 v0 v1 v2 v3 v4)
      else
        (f_X12_moves Γ r15.2 v0 v2 v3 v4).bind fun r18 =>
        (f_X12_stateOf Γ r18 v0).bind fun r19 =>
        rhck (Γ.2.2.1 (r18.2.2 v0 56) = 15) <|
        rhck (0 ≤ (r19).toInt ∧ (r19).toInt < (Γ.2.2.2 (r18.2.2 v0 56) : Nat)) <|
        if (r18.1 (r18.2.2 v0 56) r19.toNatClampNeg) < 0 then
          (rhck (0 ≤ (v1).toInt ∧ (v1).toInt < (Γ.2.2.2 (r18.2.2 v0 56) : Nat)) <|
          let M24 := rhsi r18 (r18.2.2 v0 56) (r19 : Int32).toNatClampNeg ((r18.1 (r18.2.2 v0 56) v1.toNatClampNeg) + 1)
          rhck (Γ.2.2.1 (r18.2.2 v0 55) = 15) <|
          rhck (0 ≤ (r19).toInt ∧ (r19).toInt < (Γ.2.2.2 (r18.2.2 v0 55) : Nat)) <|
          let M27 := rhsi M24 (r18.2.2 v0 55) (r19 : Int32).toNatClampNeg v1
          rhck (Γ.2.2.1 (r18.2.2 v0 54) = 15) <|
          rhck (0 ≤ (r19).toInt ∧ (r19).toInt < (Γ.2.2.2 (r18.2.2 v0 54) : Nat)) <|
          let M30 := rhsi M27 (r18.2.2 v0 54) (r19 : Int32).toNatClampNeg (((100 * v2) + (10 * v3)) + v4)
          rhck (Γ.2.2.1 (r18.2.2 v0 58) = 15) <|
          rhck (0 ≤ (M30.1 v0 60).toInt ∧ (M30.1 v0 60).toInt < (Γ.2.2.2 (r18.2.2 v0 58) : Nat)) <|
          let M33 := rhsi M30 (r18.2.2 v0 58) (M30.1 v0 60 : Int32).toNatClampNeg r19
          let M34 := rhsi M33 v0 60 ((M33.1 v0 60) + 1)
          f_X12_spread_163 (f_X12_spread_46 k169 Γ n) Γ M34 v0 v1 v2 v3 v4)
        else
          f_X12_spread_163 (f_X12_spread_46 k169 Γ n) Γ r18 v0 v1 v2 v3 v4)
    else
      k169 M v0 v1 v2 v3
def f_X12_spread_169 (k16 : rhM → Nat → Int32 → Int32 → Int32 → Option (rhM)) (Γ : rhG) (M : rhM) (v0 : Nat) (v1 : Int32) (v2 : Int32) (v3 : Int32) : Option (rhM) :=
  let x35 : Int32 := v3 + 1
  k16 M v0 v1 v2 x35
def f_X12_spread_39 (k16 : rhM → Nat → Int32 → Int32 → Int32 → Option (rhM)) (k175 : rhM → Nat → Int32 → Int32 → Option (rhM)) (Γ : rhG) (M : rhM) (v0 : Nat) (v1 : Int32) (v2 : Int32) (v3 : Int32) (s0 : Int32) (s1 : Int32) (s2 : Int32) : Option (rhM) :=
  if (s1 - s2) < s0 then
    (k175 M v0 v1 v2)
  else
    f_X12_spread_46 (f_X12_spread_169 k16 Γ) Γ rhFU M v0 v1 v2 v3 0
def f_X12_spread_16 (k175 : rhM → Nat → Int32 → Int32 → Option (rhM)) (Γ : rhG) : Nat → rhM → Nat → Int32 → Int32 → Int32 → Option (rhM)
  | 0, _, _, _, _, _ => none
  | n + 1, M, v0, v1, v2, v3 =>
    rhck (Γ.2.2.1 v0 = 13) <|
    rhck (Γ.2.2.1 (M.2.2 v0 64) = 15) <|
    rhck (0 ≤ (v2).toInt ∧ (v2).toInt < (Γ.2.2.2 (M.2.2 v0 64) : Nat)) <|
    if v2 = 0 then
      (f_X12_spread_39 (f_X12_spread_16 k175 Γ n) k175 Γ M v0 v1 v2 v3 v3 (M.1 (M.2.2 v0 64) v2.toNatClampNeg) 0)
    else
      rhck (0 ≤ (v2 - 1).toInt ∧ (v2 - 1).toInt < (Γ.2.2.2 (M.2.2 v0 64) : Nat)) <|
      f_X12_spread_39 (f_X12_spread_16 k175 Γ n) k175 Γ M v0 v1 v2 v3 v3 (M.1 (M.2.2 v0 64) v2.toNatClampNeg) (M.1 (M.2.2 v0 64) (v2 - 1).toNatClampNeg)
def f_X12_spread_175 (k6 : rhM → Nat → Int32 → Int32 → Option (rhM)) (Γ : rhG) (M : rhM) (v0 : Nat) (v1 : Int32) (v2 : Int32) : Option (rhM) :=
  let x37 : Int32 := v2 + 1
  k6 M v0 v1 x37
def f_X12_spread_6 (Γ : rhG) : Nat → rhM → Nat → Int32 → Int32 → Option (rhM)
  | 0, _, _, _, _ => none
  | n + 1, M, v0, v1, v2 =>
    rhck (Γ.2.2.1 v0 = 13) <|
    (f_X12_railMany Γ M v0).bind fun r4 =>
    if v2 < r4 then
      (f_X12_spread_16 (f_X12_spread_175 (f_X12_spread_6 Γ n) Γ) Γ rhFU M v0 v1 v2 1)
    else
      some M
def f_X12_spread (Γ : rhG) (M : rhM) (v0 : Nat) (v1 : Int32) : Option (rhM) :=
  rhck (Γ.2.2.1 v0 = 13) <|
  (f_X12_keepAt Γ M v0).bind fun r2 =>
  f_X12_spread_6 Γ rhFU r2 v0 v1 0
set_option maxHeartbeats 4000000 in
set_option maxRecDepth 100000 in
theorem b_X12_spread_163 {E : rhE} {Γ : rhG} {k46 : rhM → Nat → Int32 → Int32 → Int32 → Int32 → Option (rhM)} (hk46 : ∀ (M : rhM) (v0 : Nat) (v1 : Int32) (v2 : Int32) (v3 : Int32) (v4 : Int32), rhF E 9 6 yX12_spread cX12_spread none Γ (rhe1U Γ) (k46 M v0 v1 v2 v3 v4) 46 [(0, rhR v0), (1, rhI v1), (2, rhI v2), (3, rhI v3), (4, rhI v4)] [] Γ M) : ∀ (M : rhM) (v0 : Nat) (v1 : Int32) (v2 : Int32) (v3 : Int32) (v4 : Int32), rhF E 9 6 yX12_spread cX12_spread none Γ (rhe1U Γ) (f_X12_spread_163 k46 Γ M v0 v1 v2 v3 v4) 163 [(0, rhR v0), (1, rhI v1), (2, rhI v2), (3, rhI v3), (4, rhI v4)] [] Γ M := by
  intro M v0 v1 v2 v3 v4
  rw [f_X12_spread_163]
  refine rhF.iinc (pc := 163) (L' := [(4, rhI _), (0, rhR _), (1, rhI _), (2, rhI _), (3, rhI _)]) dX12_spread_163 4 rfl rfl (by decide) rfl ?_
  refine rhF.goto (pc := 166) 46 dX12_spread_166 (by decide) ?_
  refine rhF.sub [1, 2, 3, 4, 0] rfl ?_
  exact hk46 _ _ _ _ _ _
set_option maxHeartbeats 4000000 in
set_option maxRecDepth 100000 in
theorem b_X12_spread_46 {E : rhE} {Γ : rhG} {k169 : rhM → Nat → Int32 → Int32 → Int32 → Option (rhM)} (hk169 : ∀ (M : rhM) (v0 : Nat) (v1 : Int32) (v2 : Int32) (v3 : Int32), rhF E 9 6 yX12_spread cX12_spread none Γ (rhe1U Γ) (k169 M v0 v1 v2 v3) 169 [(0, rhR v0), (1, rhI v1), (2, rhI v2), (3, rhI v3)] [] Γ M) : ∀ (n : Nat) (M : rhM) (v0 : Nat) (v1 : Int32) (v2 : Int32) (v3 : Int32) (v4 : Int32), rhF E 9 6 yX12_spread cX12_spread none Γ (rhe1U Γ) (f_X12_spread_46 k169 Γ n M v0 v1 v2 v3 v4) 46 [(0, rhR v0), (1, rhI v1), (2, rhI v2), (3, rhI v3), (4, rhI v4)] [] Γ M := by
  intro n
  induction n with
  | zero => intro M v0 v1 v2 v3 v4; rw [f_X12_spread_46]; exact rhF.nope
  | succ n ih =>
    intro M v0 v1 v2 v3 v4
    rw [f_X12_spread_46]
    refine rhF.iload (pc := 46) dX12_spread_46 4 rfl ?_
    refine rhF.aload_n (pc := 48) dX12_spread_48 0 rfl ?_
    refine rhF.ck (fun h11 => ?_)
    refine rhF.callV (pc := 49) (ci := 12) (embc := rhe0I _ _) [] dX12_spread_49 ml_X12_412 mv_X12_railMany ⟨_, rfl, rfl⟩ h11 (c_X12_railMany _ _ _ _) (by decide) (by decide) rfl (Nat.le_of_ble_eq_true rfl) (fun r12 _ => ?_)
    refine rhF.icmp_ge (pc := 52) 169 dX12_spread_52 (by decide) (fun h13 => ?_) (fun h13 => ?_)
    · refine rhF.aload_n (pc := 55) dX12_spread_55 0 rfl ?_
      refine rhF.callV (pc := 56) (ci := 12) (embc := rhe1U _) [] dX12_spread_56 ml_X12_512 mv_X12_layAt ⟨_, rfl, rfl⟩ h11 (c_X12_layAt _ _ _ _) (by decide) (by decide) rfl (Nat.le_of_ble_eq_true rfl) (fun r14 _ => ?_)
      refine rhF.aload_n (pc := 59) dX12_spread_59 0 rfl ?_
      refine rhF.iload_n (pc := 60) dX12_spread_60 2 rfl ?_
      refine rhF.iload_n (pc := 61) dX12_spread_61 3 rfl ?_
      refine rhF.iload (pc := 62) dX12_spread_62 4 rfl ?_
      refine rhF.callV (pc := 64) (ci := 12) (embc := rhe1I _) [rhI _, rhI _, rhI _] dX12_spread_64 ml_X12_471 mv_X12_isLawful ⟨_, rfl, rfl⟩ h11 (c_X12_isLawful _ _ _ _ _ _ _) (by decide) (by decide) rfl (Nat.le_of_ble_eq_true rfl) (fun r15 _ => ?_)
      refine rhF.if_ne (pc := 67) 73 dX12_spread_67 (by decide) (fun h16 => ?_) (fun h16 => ?_)
      · refine rhF.goto (pc := 70) 163 dX12_spread_70 (by decide) ?_
        exact (b_X12_spread_163 ih) _ _ _ _ _ _
      · refine rhF.aload_n (pc := 73) dX12_spread_73 0 rfl ?_
        refine rhF.iload_n (pc := 74) dX12_spread_74 2 rfl ?_
        refine rhF.iload_n (pc := 75) dX12_spread_75 3 rfl ?_
        refine rhF.iload (pc := 76) dX12_spread_76 4 rfl ?_
        refine rhF.callV (pc := 78) (ci := 12) (embc := rhe1U _) [rhI _, rhI _, rhI _] dX12_spread_78 ml_X12_474 mv_X12_moves ⟨_, rfl, rfl⟩ h11 (c_X12_moves _ _ _ _ _ _ _) (by decide) (by decide) rfl (Nat.le_of_ble_eq_true rfl) (fun r18 _ => ?_)
        refine rhF.aload_n (pc := 81) dX12_spread_81 0 rfl ?_
        refine rhF.callV (pc := 82) (ci := 12) (embc := rhe0I _ _) [] dX12_spread_82 ml_X12_490 mv_X12_stateOf ⟨_, rfl, rfl⟩ h11 (c_X12_stateOf _ _ _ _) (by decide) (by decide) rfl (Nat.le_of_ble_eq_true rfl) (fun r19 _ => ?_)
        refine rhF.istore (pc := 85) (L' := [(5, rhI _), (0, rhR _), (1, rhI _), (2, rhI _), (3, rhI _), (4, rhI _)]) dX12_spread_85 (by decide) rfl ?_
        refine rhF.aload_n (pc := 87) dX12_spread_87 1 rfl ?_
        refine rhF.get (pc := 88) (rhR _) dX12_spread_88 fl_X12_129 h11 rfl ?_
        refine rhF.iload (pc := 91) dX12_spread_91 0 rfl ?_
        refine rhF.ck (fun h20 => ?_)
        refine rhF.ck (fun h21 => ?_)
        refine rhF.iald (pc := 93) dX12_spread_93 h20 h21 ?_
        refine rhF.if_lt (pc := 94) 100 dX12_spread_94 (by decide) (fun h22 => ?_) (fun h22 => ?_)
        · refine rhF.aload_n (pc := 100) dX12_spread_100 1 rfl ?_
          refine rhF.get (pc := 101) (rhR _) dX12_spread_101 fl_X12_129 h11 rfl ?_
          refine rhF.iload (pc := 104) dX12_spread_104 0 rfl ?_
          refine rhF.aload_n (pc := 106) dX12_spread_106 1 rfl ?_
          refine rhF.get (pc := 107) (rhR _) dX12_spread_107 fl_X12_129 h11 rfl ?_
          refine rhF.iload_n (pc := 110) dX12_spread_110 2 rfl ?_
          refine rhF.ck (fun h23 => ?_)
          refine rhF.iald (pc := 111) dX12_spread_111 h20 h23 ?_
          refine rhF.iconst (pc := 112) (v := 1) dX12_spread_112 (by decide) ?_
          refine rhF.iadd (pc := 113) dX12_spread_113 ?_
          refine rhF.iast (pc := 114) dX12_spread_114 h20 h21 ?_
          refine rhF.aload_n (pc := 115) dX12_spread_115 1 rfl ?_
          refine rhF.get (pc := 116) (rhR _) dX12_spread_116 fl_X12_126 h11 rfl ?_
          refine rhF.iload (pc := 119) dX12_spread_119 0 rfl ?_
          refine rhF.iload_n (pc := 121) dX12_spread_121 2 rfl ?_
          refine rhF.ck (fun h25 => ?_)
          refine rhF.ck (fun h26 => ?_)
          refine rhF.iast (pc := 122) dX12_spread_122 h25 h26 ?_
          refine rhF.aload_n (pc := 123) dX12_spread_123 1 rfl ?_
          refine rhF.get (pc := 124) (rhR _) dX12_spread_124 fl_X12_123 h11 rfl ?_
          refine rhF.iload (pc := 127) dX12_spread_127 0 rfl ?_
          refine rhF.bipush (pc := 129) (v := 100) dX12_spread_129 (by decide) ?_
          refine rhF.iload_n (pc := 131) dX12_spread_131 3 rfl ?_
          refine rhF.imul (pc := 132) dX12_spread_132 ?_
          refine rhF.bipush (pc := 133) (v := 10) dX12_spread_133 (by decide) ?_
          refine rhF.iload_n (pc := 135) dX12_spread_135 4 rfl ?_
          refine rhF.imul (pc := 136) dX12_spread_136 ?_
          refine rhF.iadd (pc := 137) dX12_spread_137 ?_
          refine rhF.iload (pc := 138) dX12_spread_138 5 rfl ?_
          refine rhF.iadd (pc := 140) dX12_spread_140 ?_
          refine rhF.ck (fun h28 => ?_)
          refine rhF.ck (fun h29 => ?_)
          refine rhF.iast (pc := 141) dX12_spread_141 h28 h29 ?_
          refine rhF.aload_n (pc := 142) dX12_spread_142 1 rfl ?_
          refine rhF.get (pc := 143) (rhR _) dX12_spread_143 fl_X12_136 h11 rfl ?_
          refine rhF.aload_n (pc := 146) dX12_spread_146 1 rfl ?_
          refine rhF.get (pc := 147) (rhI _) dX12_spread_147 fl_X12_493 h11 rfl ?_
          refine rhF.iload (pc := 150) dX12_spread_150 0 rfl ?_
          refine rhF.ck (fun h31 => ?_)
          refine rhF.ck (fun h32 => ?_)
          refine rhF.iast (pc := 152) dX12_spread_152 h31 h32 ?_
          refine rhF.aload_n (pc := 153) dX12_spread_153 1 rfl ?_
          refine rhF.dupr (pc := 154) dX12_spread_154 ?_
          refine rhF.get (pc := 155) (rhI _) dX12_spread_155 fl_X12_493 h11 rfl ?_
          refine rhF.iconst (pc := 158) (v := 1) dX12_spread_158 (by decide) ?_
          refine rhF.iadd (pc := 159) dX12_spread_159 ?_
          refine rhF.puti (pc := 160) dX12_spread_160 fl_X12_493 h11 (fun q hq => by cases hq; exact Or.inl rfl) ⟨rfl, rfl⟩ (fun _ => rfl) ?_
          refine rhF.sub [1, 2, 3, 4, 5] rfl ?_
          exact (b_X12_spread_163 ih) _ _ _ _ _ _
        · refine rhF.goto (pc := 97) 163 dX12_spread_97 (by decide) ?_
          refine rhF.sub [1, 2, 3, 4, 5] rfl ?_
          exact (b_X12_spread_163 ih) _ _ _ _ _ _
    · refine rhF.sub [0, 1, 2, 3] rfl ?_
      exact hk169 _ _ _ _ _
set_option maxHeartbeats 4000000 in
set_option maxRecDepth 100000 in
theorem b_X12_spread_169 {E : rhE} {Γ : rhG} {k16 : rhM → Nat → Int32 → Int32 → Int32 → Option (rhM)} (hk16 : ∀ (M : rhM) (v0 : Nat) (v1 : Int32) (v2 : Int32) (v3 : Int32), rhF E 9 6 yX12_spread cX12_spread none Γ (rhe1U Γ) (k16 M v0 v1 v2 v3) 16 [(0, rhR v0), (1, rhI v1), (2, rhI v2), (3, rhI v3)] [] Γ M) : ∀ (M : rhM) (v0 : Nat) (v1 : Int32) (v2 : Int32) (v3 : Int32), rhF E 9 6 yX12_spread cX12_spread none Γ (rhe1U Γ) (f_X12_spread_169 k16 Γ M v0 v1 v2 v3) 169 [(0, rhR v0), (1, rhI v1), (2, rhI v2), (3, rhI v3)] [] Γ M := by
  intro M v0 v1 v2 v3
  rw [f_X12_spread_169]
  refine rhF.iinc (pc := 169) (L' := [(3, rhI _), (0, rhR _), (1, rhI _), (2, rhI _)]) dX12_spread_169 3 rfl rfl (by decide) rfl ?_
  refine rhF.goto (pc := 172) 16 dX12_spread_172 (by decide) ?_
  refine rhF.sub [1, 2, 3, 0] rfl ?_
  exact hk16 _ _ _ _ _
set_option maxHeartbeats 4000000 in
set_option maxRecDepth 100000 in
theorem b_X12_spread_39 {E : rhE} {Γ : rhG} {k16 : rhM → Nat → Int32 → Int32 → Int32 → Option (rhM)} {k175 : rhM → Nat → Int32 → Int32 → Option (rhM)} (hk16 : ∀ (M : rhM) (v0 : Nat) (v1 : Int32) (v2 : Int32) (v3 : Int32), rhF E 9 6 yX12_spread cX12_spread none Γ (rhe1U Γ) (k16 M v0 v1 v2 v3) 16 [(0, rhR v0), (1, rhI v1), (2, rhI v2), (3, rhI v3)] [] Γ M) (hk175 : ∀ (M : rhM) (v0 : Nat) (v1 : Int32) (v2 : Int32), rhF E 9 6 yX12_spread cX12_spread none Γ (rhe1U Γ) (k175 M v0 v1 v2) 175 [(0, rhR v0), (1, rhI v1), (2, rhI v2)] [] Γ M) : ∀ (M : rhM) (v0 : Nat) (v1 : Int32) (v2 : Int32) (v3 : Int32) (s0 : Int32) (s1 : Int32) (s2 : Int32), rhF E 9 6 yX12_spread cX12_spread none Γ (rhe1U Γ) (f_X12_spread_39 k16 k175 Γ M v0 v1 v2 v3 s0 s1 s2) 39 [(0, rhR v0), (1, rhI v1), (2, rhI v2), (3, rhI v3)] [rhI s2, rhI s1, rhI s0] Γ M := by
  intro M v0 v1 v2 v3 s0 s1 s2
  rw [f_X12_spread_39]
  refine rhF.isub (pc := 39) dX12_spread_39 ?_
  refine rhF.icmp_gt (pc := 40) 175 dX12_spread_40 (by decide) (fun h10 => ?_) (fun h10 => ?_)
  · refine rhF.sub [0, 1, 2] rfl ?_
    exact hk175 _ _ _ _
  · refine rhF.iconst (pc := 43) (v := 0) dX12_spread_43 (by decide) ?_
    refine rhF.istore (pc := 44) (L' := [(4, rhI _), (0, rhR _), (1, rhI _), (2, rhI _), (3, rhI _)]) dX12_spread_44 (by decide) rfl ?_
    refine rhF.sub [1, 2, 3, 4, 0] rfl ?_
    exact (b_X12_spread_46 (b_X12_spread_169 hk16) rhFU) _ _ _ _ _ _
set_option maxHeartbeats 4000000 in
set_option maxRecDepth 100000 in
theorem b_X12_spread_16 {E : rhE} {Γ : rhG} {k175 : rhM → Nat → Int32 → Int32 → Option (rhM)} (hk175 : ∀ (M : rhM) (v0 : Nat) (v1 : Int32) (v2 : Int32), rhF E 9 6 yX12_spread cX12_spread none Γ (rhe1U Γ) (k175 M v0 v1 v2) 175 [(0, rhR v0), (1, rhI v1), (2, rhI v2)] [] Γ M) : ∀ (n : Nat) (M : rhM) (v0 : Nat) (v1 : Int32) (v2 : Int32) (v3 : Int32), rhF E 9 6 yX12_spread cX12_spread none Γ (rhe1U Γ) (f_X12_spread_16 k175 Γ n M v0 v1 v2 v3) 16 [(0, rhR v0), (1, rhI v1), (2, rhI v2), (3, rhI v3)] [] Γ M := by
  intro n
  induction n with
  | zero => intro M v0 v1 v2 v3; rw [f_X12_spread_16]; exact rhF.nope
  | succ n ih =>
    intro M v0 v1 v2 v3
    rw [f_X12_spread_16]
    refine rhF.iload_n (pc := 16) dX12_spread_16 3 rfl ?_
    refine rhF.aload_n (pc := 17) dX12_spread_17 0 rfl ?_
    refine rhF.ck (fun h6 => ?_)
    refine rhF.get (pc := 18) (rhR _) dX12_spread_18 fl_X12_145 h6 rfl ?_
    refine rhF.iload_n (pc := 21) dX12_spread_21 2 rfl ?_
    refine rhF.ck (fun h7 => ?_)
    refine rhF.ck (fun h8 => ?_)
    refine rhF.iald (pc := 22) dX12_spread_22 h7 h8 ?_
    refine rhF.iload_n (pc := 23) dX12_spread_23 2 rfl ?_
    refine rhF.if_ne (pc := 24) 31 dX12_spread_24 (by decide) (fun h9 => ?_) (fun h9 => ?_)
    · refine rhF.iconst (pc := 27) (v := 0) dX12_spread_27 (by decide) ?_
      refine rhF.goto (pc := 28) 39 dX12_spread_28 (by decide) ?_
      exact (b_X12_spread_39 ih hk175) _ _ _ _ _ _ _ _
    · refine rhF.aload_n (pc := 31) dX12_spread_31 0 rfl ?_
      refine rhF.get (pc := 32) (rhR _) dX12_spread_32 fl_X12_145 h6 rfl ?_
      refine rhF.iload_n (pc := 35) dX12_spread_35 2 rfl ?_
      refine rhF.iconst (pc := 36) (v := 1) dX12_spread_36 (by decide) ?_
      refine rhF.isub (pc := 37) dX12_spread_37 ?_
      refine rhF.ck (fun h36 => ?_)
      refine rhF.iald (pc := 38) dX12_spread_38 h7 h36 ?_
      exact (b_X12_spread_39 ih hk175) _ _ _ _ _ _ _ _
set_option maxHeartbeats 4000000 in
set_option maxRecDepth 100000 in
theorem b_X12_spread_175 {E : rhE} {Γ : rhG} {k6 : rhM → Nat → Int32 → Int32 → Option (rhM)} (hk6 : ∀ (M : rhM) (v0 : Nat) (v1 : Int32) (v2 : Int32), rhF E 9 6 yX12_spread cX12_spread none Γ (rhe1U Γ) (k6 M v0 v1 v2) 6 [(0, rhR v0), (1, rhI v1), (2, rhI v2)] [] Γ M) : ∀ (M : rhM) (v0 : Nat) (v1 : Int32) (v2 : Int32), rhF E 9 6 yX12_spread cX12_spread none Γ (rhe1U Γ) (f_X12_spread_175 k6 Γ M v0 v1 v2) 175 [(0, rhR v0), (1, rhI v1), (2, rhI v2)] [] Γ M := by
  intro M v0 v1 v2
  rw [f_X12_spread_175]
  refine rhF.iinc (pc := 175) (L' := [(2, rhI _), (0, rhR _), (1, rhI _)]) dX12_spread_175 2 rfl rfl (by decide) rfl ?_
  refine rhF.goto (pc := 178) 6 dX12_spread_178 (by decide) ?_
  refine rhF.sub [1, 2, 0] rfl ?_
  exact hk6 _ _ _ _
set_option maxHeartbeats 4000000 in
set_option maxRecDepth 100000 in
theorem b_X12_spread_6 {E : rhE} {Γ : rhG} : ∀ (n : Nat) (M : rhM) (v0 : Nat) (v1 : Int32) (v2 : Int32), rhF E 9 6 yX12_spread cX12_spread none Γ (rhe1U Γ) (f_X12_spread_6 Γ n M v0 v1 v2) 6 [(0, rhR v0), (1, rhI v1), (2, rhI v2)] [] Γ M := by
  intro n
  induction n with
  | zero => intro M v0 v1 v2; rw [f_X12_spread_6]; exact rhF.nope
  | succ n ih =>
    intro M v0 v1 v2
    rw [f_X12_spread_6]
    refine rhF.iload_n (pc := 6) dX12_spread_6 2 rfl ?_
    refine rhF.aload_n (pc := 7) dX12_spread_7 0 rfl ?_
    refine rhF.ck (fun h3 => ?_)
    refine rhF.callV (pc := 8) (ci := 12) (embc := rhe0I _ _) [] dX12_spread_8 ml_X12_412 mv_X12_railMany ⟨_, rfl, rfl⟩ h3 (c_X12_railMany _ _ _ _) (by decide) (by decide) rfl (Nat.le_of_ble_eq_true rfl) (fun r4 _ => ?_)
    refine rhF.icmp_ge (pc := 11) 181 dX12_spread_11 (by decide) (fun h5 => ?_) (fun h5 => ?_)
    · refine rhF.iconst (pc := 14) (v := 1) dX12_spread_14 (by decide) ?_
      refine rhF.istore_n (pc := 15) (L' := [(3, rhI _), (0, rhR _), (1, rhI _), (2, rhI _)]) dX12_spread_15 (by decide) rfl ?_
      refine rhF.sub [1, 2, 3, 0] rfl ?_
      exact (b_X12_spread_16 (b_X12_spread_175 ih) rhFU) _ _ _ _ _
    · exact rhF.vret (pc := 181) dX12_spread_181 rfl rfl
set_option maxHeartbeats 4000000 in
set_option maxRecDepth 100000 in
theorem b_X12_spread {E : rhE} {Γ : rhG} : ∀ (M : rhM) (v0 : Nat) (v1 : Int32), rhF E 9 6 yX12_spread cX12_spread none Γ (rhe1U Γ) (f_X12_spread Γ M v0 v1) 0 [(0, rhR v0), (1, rhI v1)] [] Γ M := by
  intro M v0 v1
  rw [f_X12_spread]
  refine rhF.aload_n (pc := 0) dX12_spread_0 0 rfl ?_
  refine rhF.ck (fun h1 => ?_)
  refine rhF.callV (pc := 1) (ci := 12) (embc := rhe1U _) [] dX12_spread_1 ml_X12_509 mv_X12_keepAt ⟨_, rfl, rfl⟩ h1 (c_X12_keepAt _ _ _ _) (by decide) (by decide) rfl (Nat.le_of_ble_eq_true rfl) (fun r2 _ => ?_)
  refine rhF.iconst (pc := 4) (v := 0) dX12_spread_4 (by decide) ?_
  refine rhF.istore_n (pc := 5) (L' := [(2, rhI _), (0, rhR _), (1, rhI _)]) dX12_spread_5 (by decide) rfl ?_
  refine rhF.sub [1, 2, 0] rfl ?_
  exact (b_X12_spread_6 rhFU) _ _ _ _
theorem c_X12_spread (E : rhE) (Γ : rhG) (M : rhM) (v0 : Nat) (v1 : Int32) : ∀ a, f_X12_spread Γ M v0 v1 = some a → rhC E 9 yX12_spread cX12_spread 6 none [rhR v0, rhI v1] Γ M ((rhe1U Γ) a) := rhF.met (by decide +kernel) (Nat.le_of_ble_eq_true rfl) (b_X12_spread M v0 v1)
def f_X12_search_68 (k11 : rhM → Nat → Int32 → Int32 → Option (Int32 × rhM)) (Γ : rhG) (M : rhM) (v0 : Nat) (v2 : Int32) (v3 : Int32) : Option (Int32 × rhM) :=
  let x17 : Int32 := v3 + 1
  k11 M v0 v2 x17
def f_X12_search_11 (Γ : rhG) : Nat → rhM → Nat → Int32 → Int32 → Option (Int32 × rhM)
  | 0, _, _, _, _ => none
  | n + 1, M, v0, v2, v3 =>
    rhck (Γ.2.2.1 v0 = 13) <|
    if v3 < (M.1 v0 60) then
      (rhck (Γ.2.2.1 (M.2.2 v0 58) = 15) <|
      rhck (0 ≤ (v3).toInt ∧ (v3).toInt < (Γ.2.2.2 (M.2.2 v0 58) : Nat)) <|
      (f_X12_layState Γ M v0 (M.1 (M.2.2 v0 58) v3.toNatClampNeg)).bind fun r8 =>
      (f_X12_isEnd Γ r8 v0).bind fun r9 =>
      if r9 = 0 then
        (rhck (Γ.2.2.1 (r8.2.2 v0 58) = 15) <|
        rhck (0 ≤ (v3).toInt ∧ (v3).toInt < (Γ.2.2.2 (r8.2.2 v0 58) : Nat)) <|
        rhck (Γ.2.2.1 (r8.2.2 v0 56) = 15) <|
        rhck (0 ≤ (r8.1 (r8.2.2 v0 58) v3.toNatClampNeg).toInt ∧ (r8.1 (r8.2.2 v0 58) v3.toNatClampNeg).toInt < (Γ.2.2.2 (r8.2.2 v0 56) : Nat)) <|
        if (r8.1 (r8.2.2 v0 56) (r8.1 (r8.2.2 v0 58) v3.toNatClampNeg).toNatClampNeg) < v2 then
          ((f_X12_spread Γ r8 v0 (r8.1 (r8.2.2 v0 58) v3.toNatClampNeg)).bind fun r16 =>
          f_X12_search_68 (f_X12_search_11 Γ n) Γ r16 v0 v2 v3)
        else
          f_X12_search_68 (f_X12_search_11 Γ n) Γ r8 v0 v2 v3)
      else
        rhck (Γ.2.2.1 (r8.2.2 v0 58) = 15) <|
        rhck (0 ≤ (v3).toInt ∧ (v3).toInt < (Γ.2.2.2 (r8.2.2 v0 58) : Nat)) <|
        some ((r8.1 (r8.2.2 v0 58) v3.toNatClampNeg, r8)))
    else
      some (((-1), M))
def f_X12_search (Γ : rhG) (M : rhM) (v0 : Nat) (v1 : Int32) (v2 : Int32) : Option (Int32 × rhM) :=
  rhck (Γ.2.2.1 v0 = 13) <|
  let M2 := rhsi M v0 61 v1
  (f_X12_begins Γ M2 v0).bind fun r3 =>
  f_X12_search_11 Γ rhFU r3 v0 v2 0
set_option maxHeartbeats 4000000 in
set_option maxRecDepth 100000 in
theorem b_X12_search_68 {E : rhE} {Γ : rhG} {k11 : rhM → Nat → Int32 → Int32 → Option (Int32 × rhM)} (hk11 : ∀ (M : rhM) (v0 : Nat) (v2 : Int32) (v3 : Int32), rhF E 10 4 yX12_search cX12_search (some .int) Γ (rhe1I Γ) (k11 M v0 v2 v3) 11 [(0, rhR v0), (2, rhI v2), (3, rhI v3)] [] Γ M) : ∀ (M : rhM) (v0 : Nat) (v2 : Int32) (v3 : Int32), rhF E 10 4 yX12_search cX12_search (some .int) Γ (rhe1I Γ) (f_X12_search_68 k11 Γ M v0 v2 v3) 68 [(0, rhR v0), (2, rhI v2), (3, rhI v3)] [] Γ M := by
  intro M v0 v2 v3
  rw [f_X12_search_68]
  refine rhF.iinc (pc := 68) (L' := [(3, rhI _), (0, rhR _), (2, rhI _)]) dX12_search_68 2 rfl rfl (by decide) rfl ?_
  refine rhF.goto (pc := 71) 11 dX12_search_71 (by decide) ?_
  refine rhF.sub [1, 2, 0] rfl ?_
  exact hk11 _ _ _ _
set_option maxHeartbeats 4000000 in
set_option maxRecDepth 100000 in
theorem b_X12_search_11 {E : rhE} {Γ : rhG} : ∀ (n : Nat) (M : rhM) (v0 : Nat) (v2 : Int32) (v3 : Int32), rhF E 10 4 yX12_search cX12_search (some .int) Γ (rhe1I Γ) (f_X12_search_11 Γ n M v0 v2 v3) 11 [(0, rhR v0), (2, rhI v2), (3, rhI v3)] [] Γ M := by
  intro n
  induction n with
  | zero => intro M v0 v2 v3; rw [f_X12_search_11]; exact rhF.nope
  | succ n ih =>
    intro M v0 v2 v3
    rw [f_X12_search_11]
    refine rhF.iload_n (pc := 11) dX12_search_11 2 rfl ?_
    refine rhF.aload_n (pc := 12) dX12_search_12 0 rfl ?_
    refine rhF.ck (fun h4 => ?_)
    refine rhF.get (pc := 13) (rhI _) dX12_search_13 fl_X12_493 h4 rfl ?_
    refine rhF.icmp_ge (pc := 16) 74 dX12_search_16 (by decide) (fun h5 => ?_) (fun h5 => ?_)
    · refine rhF.aload_n (pc := 19) dX12_search_19 0 rfl ?_
      refine rhF.aload_n (pc := 20) dX12_search_20 0 rfl ?_
      refine rhF.get (pc := 21) (rhR _) dX12_search_21 fl_X12_136 h4 rfl ?_
      refine rhF.iload_n (pc := 24) dX12_search_24 2 rfl ?_
      refine rhF.ck (fun h6 => ?_)
      refine rhF.ck (fun h7 => ?_)
      refine rhF.iald (pc := 25) dX12_search_25 h6 h7 ?_
      refine rhF.callV (pc := 26) (ci := 12) (embc := rhe1U _) [rhI _] dX12_search_26 ml_X12_499 mv_X12_layState ⟨_, rfl, rfl⟩ h4 (c_X12_layState _ _ _ _ _) (by decide) (by decide) rfl (Nat.le_of_ble_eq_true rfl) (fun r8 _ => ?_)
      refine rhF.aload_n (pc := 29) dX12_search_29 0 rfl ?_
      refine rhF.callV (pc := 30) (ci := 12) (embc := rhe0I _ _) [] dX12_search_30 ml_X12_503 mv_X12_isEnd ⟨_, rfl, rfl⟩ h4 (c_X12_isEnd _ _ _ _) (by decide) (by decide) rfl (Nat.le_of_ble_eq_true rfl) (fun r9 _ => ?_)
      refine rhF.if_eq (pc := 33) 43 dX12_search_33 (by decide) (fun h10 => ?_) (fun h10 => ?_)
      · refine rhF.aload_n (pc := 43) dX12_search_43 0 rfl ?_
        refine rhF.get (pc := 44) (rhR _) dX12_search_44 fl_X12_129 h4 rfl ?_
        refine rhF.aload_n (pc := 47) dX12_search_47 0 rfl ?_
        refine rhF.get (pc := 48) (rhR _) dX12_search_48 fl_X12_136 h4 rfl ?_
        refine rhF.iload_n (pc := 51) dX12_search_51 2 rfl ?_
        refine rhF.ck (fun h11 => ?_)
        refine rhF.ck (fun h12 => ?_)
        refine rhF.iald (pc := 52) dX12_search_52 h11 h12 ?_
        refine rhF.ck (fun h13 => ?_)
        refine rhF.ck (fun h14 => ?_)
        refine rhF.iald (pc := 53) dX12_search_53 h13 h14 ?_
        refine rhF.iload_n (pc := 54) dX12_search_54 1 rfl ?_
        refine rhF.icmp_ge (pc := 55) 68 dX12_search_55 (by decide) (fun h15 => ?_) (fun h15 => ?_)
        · refine rhF.aload_n (pc := 58) dX12_search_58 0 rfl ?_
          refine rhF.aload_n (pc := 59) dX12_search_59 0 rfl ?_
          refine rhF.get (pc := 60) (rhR _) dX12_search_60 fl_X12_136 h4 rfl ?_
          refine rhF.iload_n (pc := 63) dX12_search_63 2 rfl ?_
          refine rhF.iald (pc := 64) dX12_search_64 h11 h12 ?_
          refine rhF.callV (pc := 65) (ci := 12) (embc := rhe1U _) [rhI _] dX12_search_65 ml_X12_506 mv_X12_spread ⟨_, rfl, rfl⟩ h4 (c_X12_spread _ _ _ _ _) (by decide) (by decide) rfl (Nat.le_of_ble_eq_true rfl) (fun r16 _ => ?_)
          exact (b_X12_search_68 ih) _ _ _ _
        · exact (b_X12_search_68 ih) _ _ _ _
      · refine rhF.aload_n (pc := 36) dX12_search_36 0 rfl ?_
        refine rhF.get (pc := 37) (rhR _) dX12_search_37 fl_X12_136 h4 rfl ?_
        refine rhF.iload_n (pc := 40) dX12_search_40 2 rfl ?_
        refine rhF.ck (fun h18 => ?_)
        refine rhF.ck (fun h19 => ?_)
        refine rhF.iald (pc := 41) dX12_search_41 h18 h19 ?_
        exact rhF.zret (pc := 42) dX12_search_42 rfl rfl rfl
    · refine rhF.iconst (pc := 74) (v := (-1)) dX12_search_74 (by decide) ?_
      exact rhF.zret (pc := 75) dX12_search_75 rfl rfl rfl
set_option maxHeartbeats 4000000 in
set_option maxRecDepth 100000 in
theorem b_X12_search {E : rhE} {Γ : rhG} : ∀ (M : rhM) (v0 : Nat) (v1 : Int32) (v2 : Int32), rhF E 10 4 yX12_search cX12_search (some .int) Γ (rhe1I Γ) (f_X12_search Γ M v0 v1 v2) 0 [(0, rhR v0), (1, rhI v1), (2, rhI v2)] [] Γ M := by
  intro M v0 v1 v2
  rw [f_X12_search]
  refine rhF.aload_n (pc := 0) dX12_search_0 0 rfl ?_
  refine rhF.iload_n (pc := 1) dX12_search_1 1 rfl ?_
  refine rhF.ck (fun h1 => ?_)
  refine rhF.puti (pc := 2) dX12_search_2 fl_X12_481 h1 (fun q hq => by cases hq; exact Or.inl rfl) ⟨rfl, rfl⟩ (fun _ => rfl) ?_
  refine rhF.aload_n (pc := 5) dX12_search_5 0 rfl ?_
  refine rhF.callV (pc := 6) (ci := 12) (embc := rhe1U _) [] dX12_search_6 ml_X12_496 mv_X12_begins ⟨_, rfl, rfl⟩ h1 (c_X12_begins _ _ _ _) (by decide) (by decide) rfl (Nat.le_of_ble_eq_true rfl) (fun r3 _ => ?_)
  refine rhF.iconst (pc := 9) (v := 0) dX12_search_9 (by decide) ?_
  refine rhF.istore_n (pc := 10) (L' := [(3, rhI _), (0, rhR _), (1, rhI _), (2, rhI _)]) dX12_search_10 (by decide) rfl ?_
  refine rhF.sub [1, 3, 0] rfl ?_
  exact (b_X12_search_11 rhFU) _ _ _ _
theorem c_X12_search (E : rhE) (Γ : rhG) (M : rhM) (v0 : Nat) (v1 : Int32) (v2 : Int32) : ∀ a, f_X12_search Γ M v0 v1 v2 = some a → rhC E 10 yX12_search cX12_search 4 (some .int) [rhR v0, rhI v1, rhI v2] Γ M ((rhe1I Γ) a) := rhF.met (by decide +kernel) (Nat.le_of_ble_eq_true rfl) (b_X12_search M v0 v1 v2)
def f_X12_fewest (Γ : rhG) (M : rhM) (v0 : Nat) : Option (Int32 × rhM) :=
  rhck (Γ.2.2.1 v0 = 13) <|
  let M2 := rhsi M v0 66 0
  (f_X12_isMany Γ M2 v0).bind fun r3 =>
  if r3 = 0 then
    ((f_X12_search Γ M2 v0 (0 : Int32) (246960 : Int32)).bind fun r5 =>
    let x6 := r5.1
    if x6 < 0 then
      (some (((-1), r5.2)))
    else
      (f_X12_layWay Γ r5.2 v0 x6).bind fun r8 =>
      some ((r8.1 v0 66, r8)))
  else
    some (((-2), M2))
set_option maxHeartbeats 4000000 in
set_option maxRecDepth 100000 in
theorem b_X12_fewest {E : rhE} {Γ : rhG} : ∀ (M : rhM) (v0 : Nat), rhF E 11 2 yX12_fewest cX12_fewest (some .int) Γ (rhe1I Γ) (f_X12_fewest Γ M v0) 0 [(0, rhR v0)] [] Γ M := by
  intro M v0
  rw [f_X12_fewest]
  refine rhF.aload_n (pc := 0) dX12_fewest_0 0 rfl ?_
  refine rhF.iconst (pc := 1) (v := 0) dX12_fewest_1 (by decide) ?_
  refine rhF.ck (fun h1 => ?_)
  refine rhF.puti (pc := 2) dX12_fewest_2 fl_X12_342 h1 (fun q hq => by cases hq; exact Or.inl rfl) ⟨rfl, rfl⟩ (fun _ => rfl) ?_
  refine rhF.aload_n (pc := 5) dX12_fewest_5 0 rfl ?_
  refine rhF.callV (pc := 6) (ci := 12) (embc := rhe0I _ _) [] dX12_fewest_6 ml_X12_515 mv_X12_isMany ⟨_, rfl, rfl⟩ h1 (c_X12_isMany _ _ _ _) (by decide) (by decide) rfl (Nat.le_of_ble_eq_true rfl) (fun r3 _ => ?_)
  refine rhF.if_eq (pc := 9) 15 dX12_fewest_9 (by decide) (fun h4 => ?_) (fun h4 => ?_)
  · refine rhF.aload_n (pc := 15) dX12_fewest_15 0 rfl ?_
    refine rhF.iconst (pc := 16) (v := 0) dX12_fewest_16 (by decide) ?_
    refine rhF.ldc (pc := 17) dX12_fewest_17 k_X12_122 ?_
    refine rhF.callV (pc := 19) (ci := 12) (embc := rhe1I _) [rhI _, rhI _] dX12_fewest_19 ml_X12_518 mv_X12_search ⟨_, rfl, rfl⟩ h1 (c_X12_search _ _ _ _ _ _) (by decide) (by decide) rfl (Nat.le_of_ble_eq_true rfl) (fun r5 _ => ?_)
    refine rhF.istore_n (pc := 22) (L' := [(1, rhI _), (0, rhR _)]) dX12_fewest_22 (by decide) rfl ?_
    refine rhF.iload_n (pc := 23) dX12_fewest_23 0 rfl ?_
    refine rhF.if_ge (pc := 24) 29 dX12_fewest_24 (by decide) (fun h7 => ?_) (fun h7 => ?_)
    · refine rhF.iconst (pc := 27) (v := (-1)) dX12_fewest_27 (by decide) ?_
      exact rhF.zret (pc := 28) dX12_fewest_28 rfl rfl rfl
    · refine rhF.aload_n (pc := 29) dX12_fewest_29 1 rfl ?_
      refine rhF.iload_n (pc := 30) dX12_fewest_30 0 rfl ?_
      refine rhF.callV (pc := 31) (ci := 12) (embc := rhe1U _) [rhI _] dX12_fewest_31 ml_X12_521 mv_X12_layWay ⟨_, rfl, rfl⟩ h1 (c_X12_layWay _ _ _ _ _) (by decide) (by decide) rfl (Nat.le_of_ble_eq_true rfl) (fun r8 _ => ?_)
      refine rhF.aload_n (pc := 34) dX12_fewest_34 1 rfl ?_
      refine rhF.get (pc := 35) (rhI _) dX12_fewest_35 fl_X12_342 h1 rfl ?_
      exact rhF.zret (pc := 38) dX12_fewest_38 rfl rfl rfl
  · refine rhF.bipush (pc := 12) (v := (-2)) dX12_fewest_12 (by decide) ?_
    exact rhF.zret (pc := 14) dX12_fewest_14 rfl rfl rfl
theorem c_X12_fewest (E : rhE) (Γ : rhG) (M : rhM) (v0 : Nat) : ∀ a, f_X12_fewest Γ M v0 = some a → rhC E 11 yX12_fewest cX12_fewest 2 (some .int) [rhR v0] Γ M ((rhe1I Γ) a) := rhF.met (by decide +kernel) (Nat.le_of_ble_eq_true rfl) (b_X12_fewest M v0)
def f_X12_fits (Γ : rhG) (M : rhM) (v0 : Nat) (v1 : Int32) (v2 : Int32) : Option (Int32 × rhM) :=
  (f_X12_isIn Γ M v1 (0 : Int32) (3 : Int32)).bind fun r1 =>
  if r1 = 0 then
    (some (((-1), M)))
  else
    rhck (Γ.2.2.1 v0 = 13) <|
    (f_X12_rowsOf Γ M v0 v1 v2).bind fun r4 =>
    some ((r4.1, r4.2))
set_option maxHeartbeats 4000000 in
set_option maxRecDepth 100000 in
theorem b_X12_fits {E : rhE} {Γ : rhG} : ∀ (M : rhM) (v0 : Nat) (v1 : Int32) (v2 : Int32), rhF E 11 3 yX12_fits cX12_fits (some .int) Γ (rhe1I Γ) (f_X12_fits Γ M v0 v1 v2) 0 [(0, rhR v0), (1, rhI v1), (2, rhI v2)] [] Γ M := by
  intro M v0 v1 v2
  rw [f_X12_fits]
  refine rhF.iload_n (pc := 0) dX12_fits_0 1 rfl ?_
  refine rhF.iconst (pc := 1) (v := 0) dX12_fits_1 (by decide) ?_
  refine rhF.iconst (pc := 2) (v := 3) dX12_fits_2 (by decide) ?_
  refine rhF.callS (pc := 3) (embc := rhe0I _ _) [rhI _, rhI _, rhI _] dX12_fits_3 ml_X12_415 ms_X12_isIn (c_X12_isIn _ _ _ _ _ _) (by decide) (by decide) rfl (Nat.le_of_ble_eq_true rfl) (fun r1 _ => ?_)
  refine rhF.if_eq (pc := 6) 18 dX12_fits_6 (by decide) (fun h2 => ?_) (fun h2 => ?_)
  · refine rhF.iconst (pc := 18) (v := (-1)) dX12_fits_18 (by decide) ?_
    exact rhF.zret (pc := 19) dX12_fits_19 rfl rfl rfl
  · refine rhF.aload_n (pc := 9) dX12_fits_9 0 rfl ?_
    refine rhF.iload_n (pc := 10) dX12_fits_10 1 rfl ?_
    refine rhF.iload_n (pc := 11) dX12_fits_11 2 rfl ?_
    refine rhF.ck (fun h3 => ?_)
    refine rhF.callV (pc := 12) (ci := 12) (embc := rhe1I _) [rhI _, rhI _] dX12_fits_12 ml_X12_577 mv_X12_rowsOf ⟨_, rfl, rfl⟩ h3 (c_X12_rowsOf _ _ _ _ _ _) (by decide) (by decide) rfl (Nat.le_of_ble_eq_true rfl) (fun r4 _ => ?_)
    refine rhF.goto (pc := 15) 19 dX12_fits_15 (by decide) ?_
    exact rhF.zret (pc := 19) dX12_fits_19 rfl rfl rfl
theorem c_X12_fits (E : rhE) (Γ : rhG) (M : rhM) (v0 : Nat) (v1 : Int32) (v2 : Int32) : ∀ a, f_X12_fits Γ M v0 v1 v2 = some a → rhC E 11 yX12_fits cX12_fits 3 (some .int) [rhR v0, rhI v1, rhI v2] Γ M ((rhe1I Γ) a) := rhF.met (by decide +kernel) (Nat.le_of_ble_eq_true rfl) (b_X12_fits M v0 v1 v2)
def f_X12_free (Γ : rhG) (M : rhM) (v0 : Nat) (v1 : Int32) : Option (Int32 × rhM) :=
  rhck (Γ.2.2.1 v0 = 13) <|
  let M2 := rhsi M v0 66 0
  (f_X12_isHouse Γ M2 v0 v1).bind fun r3 =>
  if r3 = 0 then
    (some (((-1), M2)))
  else
    (f_X12_isMany Γ M2 v0).bind fun r5 =>
    if r5 = 0 then
      (let M7 := rhsi M2 v0 62 v1
      (f_X12_search Γ M7 v0 (1 : Int32) (246960 : Int32)).bind fun r8 =>
      let x9 := r8.1
      if x9 < 0 then
        (some (((-1), r8.2)))
      else
        (f_X12_layWay Γ r8.2 v0 x9).bind fun r11 =>
        some ((r11.1 v0 66, r11)))
    else
      some (((-2), M2))
set_option maxHeartbeats 4000000 in
set_option maxRecDepth 100000 in
theorem b_X12_free {E : rhE} {Γ : rhG} : ∀ (M : rhM) (v0 : Nat) (v1 : Int32), rhF E 11 3 yX12_free cX12_free (some .int) Γ (rhe1I Γ) (f_X12_free Γ M v0 v1) 0 [(0, rhR v0), (1, rhI v1)] [] Γ M := by
  intro M v0 v1
  rw [f_X12_free]
  refine rhF.aload_n (pc := 0) dX12_free_0 0 rfl ?_
  refine rhF.iconst (pc := 1) (v := 0) dX12_free_1 (by decide) ?_
  refine rhF.ck (fun h1 => ?_)
  refine rhF.puti (pc := 2) dX12_free_2 fl_X12_342 h1 (fun q hq => by cases hq; exact Or.inl rfl) ⟨rfl, rfl⟩ (fun _ => rfl) ?_
  refine rhF.aload_n (pc := 5) dX12_free_5 0 rfl ?_
  refine rhF.iload_n (pc := 6) dX12_free_6 1 rfl ?_
  refine rhF.callV (pc := 7) (ci := 12) (embc := rhe0I _ _) [rhI _] dX12_free_7 ml_X12_464 mv_X12_isHouse ⟨_, rfl, rfl⟩ h1 (c_X12_isHouse _ _ _ _ _) (by decide) (by decide) rfl (Nat.le_of_ble_eq_true rfl) (fun r3 _ => ?_)
  refine rhF.if_ne (pc := 10) 15 dX12_free_10 (by decide) (fun h4 => ?_) (fun h4 => ?_)
  · refine rhF.iconst (pc := 13) (v := (-1)) dX12_free_13 (by decide) ?_
    exact rhF.zret (pc := 14) dX12_free_14 rfl rfl rfl
  · refine rhF.aload_n (pc := 15) dX12_free_15 0 rfl ?_
    refine rhF.callV (pc := 16) (ci := 12) (embc := rhe0I _ _) [] dX12_free_16 ml_X12_515 mv_X12_isMany ⟨_, rfl, rfl⟩ h1 (c_X12_isMany _ _ _ _) (by decide) (by decide) rfl (Nat.le_of_ble_eq_true rfl) (fun r5 _ => ?_)
    refine rhF.if_eq (pc := 19) 25 dX12_free_19 (by decide) (fun h6 => ?_) (fun h6 => ?_)
    · refine rhF.aload_n (pc := 25) dX12_free_25 0 rfl ?_
      refine rhF.iload_n (pc := 26) dX12_free_26 1 rfl ?_
      refine rhF.puti (pc := 27) dX12_free_27 fl_X12_484 h1 (fun q hq => by cases hq; exact Or.inl rfl) ⟨rfl, rfl⟩ (fun _ => rfl) ?_
      refine rhF.aload_n (pc := 30) dX12_free_30 0 rfl ?_
      refine rhF.iconst (pc := 31) (v := 1) dX12_free_31 (by decide) ?_
      refine rhF.ldc (pc := 32) dX12_free_32 k_X12_122 ?_
      refine rhF.callV (pc := 34) (ci := 12) (embc := rhe1I _) [rhI _, rhI _] dX12_free_34 ml_X12_518 mv_X12_search ⟨_, rfl, rfl⟩ h1 (c_X12_search _ _ _ _ _ _) (by decide) (by decide) rfl (Nat.le_of_ble_eq_true rfl) (fun r8 _ => ?_)
      refine rhF.istore_n (pc := 37) (L' := [(2, rhI _), (0, rhR _), (1, rhI _)]) dX12_free_37 (by decide) rfl ?_
      refine rhF.iload_n (pc := 38) dX12_free_38 0 rfl ?_
      refine rhF.if_ge (pc := 39) 44 dX12_free_39 (by decide) (fun h10 => ?_) (fun h10 => ?_)
      · refine rhF.iconst (pc := 42) (v := (-1)) dX12_free_42 (by decide) ?_
        exact rhF.zret (pc := 43) dX12_free_43 rfl rfl rfl
      · refine rhF.aload_n (pc := 44) dX12_free_44 1 rfl ?_
        refine rhF.iload_n (pc := 45) dX12_free_45 0 rfl ?_
        refine rhF.callV (pc := 46) (ci := 12) (embc := rhe1U _) [rhI _] dX12_free_46 ml_X12_521 mv_X12_layWay ⟨_, rfl, rfl⟩ h1 (c_X12_layWay _ _ _ _ _) (by decide) (by decide) rfl (Nat.le_of_ble_eq_true rfl) (fun r11 _ => ?_)
        refine rhF.aload_n (pc := 49) dX12_free_49 1 rfl ?_
        refine rhF.get (pc := 50) (rhI _) dX12_free_50 fl_X12_342 h1 rfl ?_
        exact rhF.zret (pc := 53) dX12_free_53 rfl rfl rfl
    · refine rhF.bipush (pc := 22) (v := (-2)) dX12_free_22 (by decide) ?_
      exact rhF.zret (pc := 24) dX12_free_24 rfl rfl rfl
theorem c_X12_free (E : rhE) (Γ : rhG) (M : rhM) (v0 : Nat) (v1 : Int32) : ∀ a, f_X12_free Γ M v0 v1 = some a → rhC E 11 yX12_free cX12_free 3 (some .int) [rhR v0, rhI v1] Γ M ((rhe1I Γ) a) := rhF.met (by decide +kernel) (Nat.le_of_ble_eq_true rfl) (b_X12_free M v0 v1)
def f_X12_fresh_37 (Γ : rhG) (M : rhM) (v0 : Nat) : Option (Int64 × rhM) :=
  rhck (Γ.2.2.1 v0 = 13) <|
  let x7 := M.2.1 v0 10
  (f_X12_isGood Γ M v0).bind fun r8 =>
  if r8 = 0 then
    (some ((x7, M)))
  else
    (f_X12_goOn Γ M v0).bind fun r10 =>
    some ((x7, r10))
def f_X12_fresh (Γ : rhG) (M : rhM) (v0 : Nat) (v1 : Int32) : Option (Int64 × rhM) :=
  rhck (Γ.2.2.1 v0 = 13) <|
  (f_X12_isGood Γ M v0).bind fun r2 =>
  if r2 = 0 then
    (some (((0 : Int64), M)))
  else
    if (M.1 v0 8) = 2 then
      (if v1 = 0 then
        (f_X12_fresh_37 Γ M v0)
      else
        (f_X12_fails Γ M v0 (3 : Int32) (M.1 v0 6)).bind fun r11 =>
        f_X12_fresh_37 Γ r11 v0)
    else
      (f_X12_misplaced Γ M v0).bind fun r12 =>
      f_X12_fresh_37 Γ r12 v0
set_option maxHeartbeats 4000000 in
set_option maxRecDepth 100000 in
theorem b_X12_fresh_37 {E : rhE} {Γ : rhG} : ∀ (M : rhM) (v0 : Nat), rhF E 6 4 yX12_fresh cX12_fresh (some .long) Γ (rhe1J Γ) (f_X12_fresh_37 Γ M v0) 37 [(0, rhR v0)] [] Γ M := by
  intro M v0
  rw [f_X12_fresh_37]
  refine rhF.aload_n (pc := 37) dX12_fresh_37 0 rfl ?_
  refine rhF.ck (fun h6 => ?_)
  refine rhF.get (pc := 38) (rhJ _) dX12_fresh_38 fl_X12_273 h6 rfl ?_
  refine rhF.lstore_n (pc := 41) (L' := [(2, rhJ _), (0, rhR _)]) dX12_fresh_41 (by decide) rfl ?_
  refine rhF.aload_n (pc := 42) dX12_fresh_42 1 rfl ?_
  refine rhF.callV (pc := 43) (ci := 12) (embc := rhe0I _ _) [] dX12_fresh_43 ml_X12_294 mv_X12_isGood ⟨_, rfl, rfl⟩ h6 (c_X12_isGood _ _ _ _) (by decide) (by decide) rfl (Nat.le_of_ble_eq_true rfl) (fun r8 _ => ?_)
  refine rhF.if_eq (pc := 46) 53 dX12_fresh_46 (by decide) (fun h9 => ?_) (fun h9 => ?_)
  · refine rhF.lload_n (pc := 53) dX12_fresh_53 0 rfl ?_
    exact rhF.lret (pc := 54) dX12_fresh_54 rfl rfl
  · refine rhF.aload_n (pc := 49) dX12_fresh_49 1 rfl ?_
    refine rhF.callV (pc := 50) (ci := 12) (embc := rhe1U _) [] dX12_fresh_50 ml_X12_298 mv_X12_goOn ⟨_, rfl, rfl⟩ h6 (c_X12_goOn _ _ _ _) (by decide) (by decide) rfl (Nat.le_of_ble_eq_true rfl) (fun r10 _ => ?_)
    refine rhF.lload_n (pc := 53) dX12_fresh_53 0 rfl ?_
    exact rhF.lret (pc := 54) dX12_fresh_54 rfl rfl
set_option maxHeartbeats 4000000 in
set_option maxRecDepth 100000 in
theorem b_X12_fresh {E : rhE} {Γ : rhG} : ∀ (M : rhM) (v0 : Nat) (v1 : Int32), rhF E 6 4 yX12_fresh cX12_fresh (some .long) Γ (rhe1J Γ) (f_X12_fresh Γ M v0 v1) 0 [(0, rhR v0), (1, rhI v1)] [] Γ M := by
  intro M v0 v1
  rw [f_X12_fresh]
  refine rhF.aload_n (pc := 0) dX12_fresh_0 0 rfl ?_
  refine rhF.ck (fun h1 => ?_)
  refine rhF.callV (pc := 1) (ci := 12) (embc := rhe0I _ _) [] dX12_fresh_1 ml_X12_294 mv_X12_isGood ⟨_, rfl, rfl⟩ h1 (c_X12_isGood _ _ _ _) (by decide) (by decide) rfl (Nat.le_of_ble_eq_true rfl) (fun r2 _ => ?_)
  refine rhF.if_ne (pc := 4) 9 dX12_fresh_4 (by decide) (fun h3 => ?_) (fun h3 => ?_)
  · refine rhF.lconst (pc := 7) (v := 0) dX12_fresh_7 (by decide) ?_
    exact rhF.lret (pc := 8) dX12_fresh_8 rfl rfl
  · refine rhF.aload_n (pc := 9) dX12_fresh_9 0 rfl ?_
    refine rhF.get (pc := 10) (rhI _) dX12_fresh_10 fl_X12_266 h1 rfl ?_
    refine rhF.iconst (pc := 13) (v := 2) dX12_fresh_13 (by decide) ?_
    refine rhF.icmp_eq (pc := 14) 24 dX12_fresh_14 (by decide) (fun h4 => ?_) (fun h4 => ?_)
    · refine rhF.iload_n (pc := 24) dX12_fresh_24 1 rfl ?_
      refine rhF.if_eq (pc := 25) 37 dX12_fresh_25 (by decide) (fun h5 => ?_) (fun h5 => ?_)
      · refine rhF.sub [0] rfl ?_
        exact (b_X12_fresh_37) _ _
      · refine rhF.aload_n (pc := 28) dX12_fresh_28 0 rfl ?_
        refine rhF.iconst (pc := 29) (v := 3) dX12_fresh_29 (by decide) ?_
        refine rhF.aload_n (pc := 30) dX12_fresh_30 0 rfl ?_
        refine rhF.get (pc := 31) (rhI _) dX12_fresh_31 fl_X12_259 h1 rfl ?_
        refine rhF.callV (pc := 34) (ci := 12) (embc := rhe1U _) [rhI _, rhI _] dX12_fresh_34 ml_X12_290 mv_X12_fails ⟨_, rfl, rfl⟩ h1 (c_X12_fails _ _ _ _ _ _) (by decide) (by decide) rfl (Nat.le_of_ble_eq_true rfl) (fun r11 _ => ?_)
        refine rhF.sub [0] rfl ?_
        exact (b_X12_fresh_37) _ _
    · refine rhF.aload_n (pc := 17) dX12_fresh_17 0 rfl ?_
      refine rhF.callV (pc := 18) (ci := 12) (embc := rhe1U _) [] dX12_fresh_18 ml_X12_301 mv_X12_misplaced ⟨_, rfl, rfl⟩ h1 (c_X12_misplaced _ _ _ _) (by decide) (by decide) rfl (Nat.le_of_ble_eq_true rfl) (fun r12 _ => ?_)
      refine rhF.goto (pc := 21) 37 dX12_fresh_21 (by decide) ?_
      refine rhF.sub [0] rfl ?_
      exact (b_X12_fresh_37) _ _
theorem c_X12_fresh (E : rhE) (Γ : rhG) (M : rhM) (v0 : Nat) (v1 : Int32) : ∀ a, f_X12_fresh Γ M v0 v1 = some a → rhC E 6 yX12_fresh cX12_fresh 4 (some .long) [rhR v0, rhI v1] Γ M ((rhe1J Γ) a) := rhF.met (by decide +kernel) (Nat.le_of_ble_eq_true rfl) (b_X12_fresh M v0 v1)
def f_X12_goal_12 (k38 : rhM → Nat → Int32 → Option (Int32 × rhM)) (Γ : rhG) : Nat → rhM → Nat → Int32 → Int32 → Option (Int32 × rhM)
  | 0, _, _, _, _ => none
  | n + 1, M, v0, v1, v2 =>
    rhck (Γ.2.2.1 v0 = 13) <|
    if v2 < (M.1 v0 53) then
      (rhck (Γ.2.2.1 (M.2.2 v0 52) = 15) <|
      rhck (0 ≤ (v2).toInt ∧ (v2).toInt < (Γ.2.2.2 (M.2.2 v0 52) : Nat)) <|
      if (M.1 (M.2.2 v0 52) v2.toNatClampNeg) = v1 then
        (some (((-1), M)))
      else
        let x9 : Int32 := v2 + 1
        f_X12_goal_12 k38 Γ n M v0 v1 x9)
    else
      k38 M v0 v1
def f_X12_goal_38 (Γ : rhG) (M : rhM) (v0 : Nat) (v1 : Int32) : Option (Int32 × rhM) :=
  rhck (Γ.2.2.1 v0 = 13) <|
  rhck (Γ.2.2.1 (M.2.2 v0 52) = 15) <|
  rhck (0 ≤ (M.1 v0 53).toInt ∧ (M.1 v0 53).toInt < (Γ.2.2.2 (M.2.2 v0 52) : Nat)) <|
  let M13 := rhsi M (M.2.2 v0 52) (M.1 v0 53 : Int32).toNatClampNeg v1
  let M14 := rhsi M13 v0 53 ((M13.1 v0 53) + 1)
  some ((M14.1 v0 53, M14))
def f_X12_goal (Γ : rhG) (M : rhM) (v0 : Nat) (v1 : Int32) : Option (Int32 × rhM) :=
  rhck (Γ.2.2.1 v0 = 13) <|
  (f_X12_isHouse Γ M v0 v1).bind fun r2 =>
  if r2 = 0 then
    (some (((-1), M)))
  else
    f_X12_goal_12 (f_X12_goal_38 Γ) Γ rhFU M v0 v1 0
set_option maxHeartbeats 4000000 in
set_option maxRecDepth 100000 in
theorem b_X12_goal_12 {E : rhE} {Γ : rhG} {k38 : rhM → Nat → Int32 → Option (Int32 × rhM)} (hk38 : ∀ (M : rhM) (v0 : Nat) (v1 : Int32), rhF E 6 3 yX12_goal cX12_goal (some .int) Γ (rhe1I Γ) (k38 M v0 v1) 38 [(0, rhR v0), (1, rhI v1)] [] Γ M) : ∀ (n : Nat) (M : rhM) (v0 : Nat) (v1 : Int32) (v2 : Int32), rhF E 6 3 yX12_goal cX12_goal (some .int) Γ (rhe1I Γ) (f_X12_goal_12 k38 Γ n M v0 v1 v2) 12 [(0, rhR v0), (1, rhI v1), (2, rhI v2)] [] Γ M := by
  intro n
  induction n with
  | zero => intro M v0 v1 v2; rw [f_X12_goal_12]; exact rhF.nope
  | succ n ih =>
    intro M v0 v1 v2
    rw [f_X12_goal_12]
    refine rhF.iload_n (pc := 12) dX12_goal_12 2 rfl ?_
    refine rhF.aload_n (pc := 13) dX12_goal_13 0 rfl ?_
    refine rhF.ck (fun h4 => ?_)
    refine rhF.get (pc := 14) (rhI _) dX12_goal_14 fl_X12_339 h4 rfl ?_
    refine rhF.icmp_ge (pc := 17) 38 dX12_goal_17 (by decide) (fun h5 => ?_) (fun h5 => ?_)
    · refine rhF.aload_n (pc := 20) dX12_goal_20 0 rfl ?_
      refine rhF.get (pc := 21) (rhR _) dX12_goal_21 fl_X12_119 h4 rfl ?_
      refine rhF.iload_n (pc := 24) dX12_goal_24 2 rfl ?_
      refine rhF.ck (fun h6 => ?_)
      refine rhF.ck (fun h7 => ?_)
      refine rhF.iald (pc := 25) dX12_goal_25 h6 h7 ?_
      refine rhF.iload_n (pc := 26) dX12_goal_26 1 rfl ?_
      refine rhF.icmp_ne (pc := 27) 32 dX12_goal_27 (by decide) (fun h8 => ?_) (fun h8 => ?_)
      · refine rhF.iconst (pc := 30) (v := (-1)) dX12_goal_30 (by decide) ?_
        exact rhF.zret (pc := 31) dX12_goal_31 rfl rfl rfl
      · refine rhF.iinc (pc := 32) (L' := [(2, rhI _), (0, rhR _), (1, rhI _)]) dX12_goal_32 2 rfl rfl (by decide) rfl ?_
        refine rhF.goto (pc := 35) 12 dX12_goal_35 (by decide) ?_
        refine rhF.sub [1, 2, 0] rfl ?_
        exact ih _ _ _ _
    · refine rhF.sub [0, 1] rfl ?_
      exact hk38 _ _ _
set_option maxHeartbeats 4000000 in
set_option maxRecDepth 100000 in
theorem b_X12_goal_38 {E : rhE} {Γ : rhG} : ∀ (M : rhM) (v0 : Nat) (v1 : Int32), rhF E 6 3 yX12_goal cX12_goal (some .int) Γ (rhe1I Γ) (f_X12_goal_38 Γ M v0 v1) 38 [(0, rhR v0), (1, rhI v1)] [] Γ M := by
  intro M v0 v1
  rw [f_X12_goal_38]
  refine rhF.aload_n (pc := 38) dX12_goal_38 0 rfl ?_
  refine rhF.ck (fun h10 => ?_)
  refine rhF.get (pc := 39) (rhR _) dX12_goal_39 fl_X12_119 h10 rfl ?_
  refine rhF.aload_n (pc := 42) dX12_goal_42 0 rfl ?_
  refine rhF.get (pc := 43) (rhI _) dX12_goal_43 fl_X12_339 h10 rfl ?_
  refine rhF.iload_n (pc := 46) dX12_goal_46 1 rfl ?_
  refine rhF.ck (fun h11 => ?_)
  refine rhF.ck (fun h12 => ?_)
  refine rhF.iast (pc := 47) dX12_goal_47 h11 h12 ?_
  refine rhF.aload_n (pc := 48) dX12_goal_48 0 rfl ?_
  refine rhF.dupr (pc := 49) dX12_goal_49 ?_
  refine rhF.get (pc := 50) (rhI _) dX12_goal_50 fl_X12_339 h10 rfl ?_
  refine rhF.iconst (pc := 53) (v := 1) dX12_goal_53 (by decide) ?_
  refine rhF.iadd (pc := 54) dX12_goal_54 ?_
  refine rhF.puti (pc := 55) dX12_goal_55 fl_X12_339 h10 (fun q hq => by cases hq; exact Or.inl rfl) ⟨rfl, rfl⟩ (fun _ => rfl) ?_
  refine rhF.aload_n (pc := 58) dX12_goal_58 0 rfl ?_
  refine rhF.get (pc := 59) (rhI _) dX12_goal_59 fl_X12_339 h10 rfl ?_
  exact rhF.zret (pc := 62) dX12_goal_62 rfl rfl rfl
set_option maxHeartbeats 4000000 in
set_option maxRecDepth 100000 in
theorem b_X12_goal {E : rhE} {Γ : rhG} : ∀ (M : rhM) (v0 : Nat) (v1 : Int32), rhF E 6 3 yX12_goal cX12_goal (some .int) Γ (rhe1I Γ) (f_X12_goal Γ M v0 v1) 0 [(0, rhR v0), (1, rhI v1)] [] Γ M := by
  intro M v0 v1
  rw [f_X12_goal]
  refine rhF.aload_n (pc := 0) dX12_goal_0 0 rfl ?_
  refine rhF.iload_n (pc := 1) dX12_goal_1 1 rfl ?_
  refine rhF.ck (fun h1 => ?_)
  refine rhF.callV (pc := 2) (ci := 12) (embc := rhe0I _ _) [rhI _] dX12_goal_2 ml_X12_464 mv_X12_isHouse ⟨_, rfl, rfl⟩ h1 (c_X12_isHouse _ _ _ _ _) (by decide) (by decide) rfl (Nat.le_of_ble_eq_true rfl) (fun r2 _ => ?_)
  refine rhF.if_ne (pc := 5) 10 dX12_goal_5 (by decide) (fun h3 => ?_) (fun h3 => ?_)
  · refine rhF.iconst (pc := 8) (v := (-1)) dX12_goal_8 (by decide) ?_
    exact rhF.zret (pc := 9) dX12_goal_9 rfl rfl rfl
  · refine rhF.iconst (pc := 10) (v := 0) dX12_goal_10 (by decide) ?_
    refine rhF.istore_n (pc := 11) (L' := [(2, rhI _), (0, rhR _), (1, rhI _)]) dX12_goal_11 (by decide) rfl ?_
    refine rhF.sub [1, 2, 0] rfl ?_
    exact (b_X12_goal_12 (b_X12_goal_38) rhFU) _ _ _ _
theorem c_X12_goal (E : rhE) (Γ : rhG) (M : rhM) (v0 : Nat) (v1 : Int32) : ∀ a, f_X12_goal Γ M v0 v1 = some a → rhC E 6 yX12_goal cX12_goal 3 (some .int) [rhR v0, rhI v1] Γ M ((rhe1I Γ) a) := rhF.met (by decide +kernel) (Nat.le_of_ble_eq_true rfl) (b_X12_goal M v0 v1)
def f_X12_hush (Γ : rhG) (M : rhM) (v0 : Nat) : Option (Int32 × rhM) :=
  rhck (Γ.2.2.1 v0 = 13) <|
  let x2 := M.1 v0 51
  let M3 := rhsi M v0 51 0
  some ((x2, M3))
set_option maxHeartbeats 4000000 in
set_option maxRecDepth 100000 in
theorem b_X12_hush {E : rhE} {Γ : rhG} : ∀ (M : rhM) (v0 : Nat), rhF E 1 2 yX12_hush cX12_hush (some .int) Γ (rhe1I Γ) (f_X12_hush Γ M v0) 0 [(0, rhR v0)] [] Γ M := by
  intro M v0
  rw [f_X12_hush]
  refine rhF.aload_n (pc := 0) dX12_hush_0 0 rfl ?_
  refine rhF.ck (fun h1 => ?_)
  refine rhF.get (pc := 1) (rhI _) dX12_hush_1 fl_X12_336 h1 rfl ?_
  refine rhF.istore_n (pc := 4) (L' := [(1, rhI _), (0, rhR _)]) dX12_hush_4 (by decide) rfl ?_
  refine rhF.aload_n (pc := 5) dX12_hush_5 1 rfl ?_
  refine rhF.iconst (pc := 6) (v := 0) dX12_hush_6 (by decide) ?_
  refine rhF.puti (pc := 7) dX12_hush_7 fl_X12_336 h1 (fun q hq => by cases hq; exact Or.inl rfl) ⟨rfl, rfl⟩ (fun _ => rfl) ?_
  refine rhF.iload_n (pc := 10) dX12_hush_10 0 rfl ?_
  exact rhF.zret (pc := 11) dX12_hush_11 rfl rfl rfl
theorem c_X12_hush (E : rhE) (Γ : rhG) (M : rhM) (v0 : Nat) : ∀ a, f_X12_hush Γ M v0 = some a → rhC E 1 yX12_hush cX12_hush 2 (some .int) [rhR v0] Γ M ((rhe1I Γ) a) := rhF.met (by decide +kernel) (Nat.le_of_ble_eq_true rfl) (b_X12_hush M v0)
def f_X12_image_33 (k62 : rhM → Nat → Int32 → Option (Int32 × rhM)) (Γ : rhG) : Nat → rhM → Nat → Int32 → Int32 → Option (Int32 × rhM)
  | 0, _, _, _, _ => none
  | n + 1, M, v0, v1, v2 =>
    if v2 < 8 then
      (rhck (Γ.2.2.1 v0 = 13) <|
      rhck (Γ.2.2.1 (M.2.2 v0 42) = 15) <|
      rhck (0 ≤ (v2).toInt ∧ (v2).toInt < (Γ.2.2.2 (M.2.2 v0 42) : Nat)) <|
      rhck (Γ.2.2.1 (M.2.2 v0 86) = 15) <|
      rhck (0 ≤ ((8 * v1) + v2).toInt ∧ ((8 * v1) + v2).toInt < (Γ.2.2.2 (M.2.2 v0 86) : Nat)) <|
      let M16 := rhsi M (M.2.2 v0 86) ((8 * v1) + v2 : Int32).toNatClampNeg (M.1 (M.2.2 v0 42) v2.toNatClampNeg)
      let x17 : Int32 := v2 + 1
      f_X12_image_33 k62 Γ n M16 v0 v1 x17)
    else
      k62 M v0 v1
def f_X12_image_64 (k92 : rhM → Nat → Int32 → Option (Int32 × rhM)) (Γ : rhG) : Nat → rhM → Nat → Int32 → Int32 → Option (Int32 × rhM)
  | 0, _, _, _, _ => none
  | n + 1, M, v0, v1, v2 =>
    if v2 < 5 then
      (rhck (Γ.2.2.1 v0 = 13) <|
      rhck (Γ.2.2.1 (M.2.2 v0 43) = 15) <|
      rhck (0 ≤ (v2).toInt ∧ (v2).toInt < (Γ.2.2.2 (M.2.2 v0 43) : Nat)) <|
      rhck (Γ.2.2.1 (M.2.2 v0 87) = 15) <|
      rhck (0 ≤ ((6 * v1) + v2).toInt ∧ ((6 * v1) + v2).toInt < (Γ.2.2.2 (M.2.2 v0 87) : Nat)) <|
      let M24 := rhsi M (M.2.2 v0 87) ((6 * v1) + v2 : Int32).toNatClampNeg (M.1 (M.2.2 v0 43) v2.toNatClampNeg)
      let x25 : Int32 := v2 + 1
      f_X12_image_64 k92 Γ n M24 v0 v1 x25)
    else
      k92 M v0 v1
def f_X12_image_94 (Γ : rhG) : Nat → rhM → Nat → Int32 → Int32 → Option (Int32 × rhM)
  | 0, _, _, _, _ => none
  | n + 1, M, v0, v1, v2 =>
    rhck (Γ.2.2.1 v0 = 13) <|
    if v2 < (M.1 v0 48) then
      (rhck (Γ.2.2.1 (M.2.2 v0 46) = 15) <|
      rhck (0 ≤ (v2).toInt ∧ (v2).toInt < (Γ.2.2.2 (M.2.2 v0 46) : Nat)) <|
      rhck (Γ.2.2.1 (M.2.2 v0 88) = 15) <|
      rhck (0 ≤ ((300 * v1) + v2).toInt ∧ ((300 * v1) + v2).toInt < (Γ.2.2.2 (M.2.2 v0 88) : Nat)) <|
      let M32 := rhsi M (M.2.2 v0 88) ((300 * v1) + v2 : Int32).toNatClampNeg (M.1 (M.2.2 v0 46) v2.toNatClampNeg)
      rhck (Γ.2.2.1 (M.2.2 v0 47) = 15) <|
      rhck (0 ≤ (v2).toInt ∧ (v2).toInt < (Γ.2.2.2 (M.2.2 v0 47) : Nat)) <|
      rhck (Γ.2.2.1 (M.2.2 v0 89) = 15) <|
      rhck (0 ≤ ((300 * v1) + v2).toInt ∧ ((300 * v1) + v2).toInt < (Γ.2.2.2 (M.2.2 v0 89) : Nat)) <|
      let M37 := rhsi M32 (M.2.2 v0 89) ((300 * v1) + v2 : Int32).toNatClampNeg (M32.1 (M.2.2 v0 47) v2.toNatClampNeg)
      let x38 : Int32 := v2 + 1
      f_X12_image_94 Γ n M37 v0 v1 x38)
    else
      some ((M.1 v0 48, M))
def f_X12_image_92 (Γ : rhG) (M : rhM) (v0 : Nat) (v1 : Int32) : Option (Int32 × rhM) :=
  f_X12_image_94 Γ rhFU M v0 v1 0
def f_X12_image_62 (Γ : rhG) (M : rhM) (v0 : Nat) (v1 : Int32) : Option (Int32 × rhM) :=
  f_X12_image_64 (f_X12_image_92 Γ) Γ rhFU M v0 v1 0
def f_X12_image (Γ : rhG) (M : rhM) (v0 : Nat) (v1 : Int32) : Option (Int32 × rhM) :=
  (f_X12_isIn Γ M v1 (0 : Int32) (2 : Int32)).bind fun r1 =>
  if r1 = 0 then
    (some (((-1), M)))
  else
    rhck (Γ.2.2.1 v0 = 13) <|
    rhck (Γ.2.2.1 (M.2.2 v0 84) = 15) <|
    rhck (0 ≤ (v1).toInt ∧ (v1).toInt < (Γ.2.2.2 (M.2.2 v0 84) : Nat)) <|
    let M6 := rhsi M (M.2.2 v0 84) (v1 : Int32).toNatClampNeg (M.1 v0 48)
    rhck (Γ.2.2.1 (M.2.2 v0 85) = 15) <|
    rhck (0 ≤ (v1).toInt ∧ (v1).toInt < (Γ.2.2.2 (M.2.2 v0 85) : Nat)) <|
    let M9 := rhsi M6 (M.2.2 v0 85) (v1 : Int32).toNatClampNeg (M6.1 v0 49)
    f_X12_image_33 (f_X12_image_62 Γ) Γ rhFU M9 v0 v1 0
set_option maxHeartbeats 4000000 in
set_option maxRecDepth 100000 in
theorem b_X12_image_33 {E : rhE} {Γ : rhG} {k62 : rhM → Nat → Int32 → Option (Int32 × rhM)} (hk62 : ∀ (M : rhM) (v0 : Nat) (v1 : Int32), rhF E 5 3 yX12_image cX12_image (some .int) Γ (rhe1I Γ) (k62 M v0 v1) 62 [(0, rhR v0), (1, rhI v1)] [] Γ M) : ∀ (n : Nat) (M : rhM) (v0 : Nat) (v1 : Int32) (v2 : Int32), rhF E 5 3 yX12_image cX12_image (some .int) Γ (rhe1I Γ) (f_X12_image_33 k62 Γ n M v0 v1 v2) 33 [(0, rhR v0), (1, rhI v1), (2, rhI v2)] [] Γ M := by
  intro n
  induction n with
  | zero => intro M v0 v1 v2; rw [f_X12_image_33]; exact rhF.nope
  | succ n ih =>
    intro M v0 v1 v2
    rw [f_X12_image_33]
    refine rhF.iload_n (pc := 33) dX12_image_33 2 rfl ?_
    refine rhF.bipush (pc := 34) (v := 8) dX12_image_34 (by decide) ?_
    refine rhF.icmp_ge (pc := 36) 62 dX12_image_36 (by decide) (fun h10 => ?_) (fun h10 => ?_)
    · refine rhF.aload_n (pc := 39) dX12_image_39 0 rfl ?_
      refine rhF.ck (fun h11 => ?_)
      refine rhF.get (pc := 40) (rhR _) dX12_image_40 fl_X12_196 h11 rfl ?_
      refine rhF.bipush (pc := 43) (v := 8) dX12_image_43 (by decide) ?_
      refine rhF.iload_n (pc := 45) dX12_image_45 1 rfl ?_
      refine rhF.imul (pc := 46) dX12_image_46 ?_
      refine rhF.iload_n (pc := 47) dX12_image_47 2 rfl ?_
      refine rhF.iadd (pc := 48) dX12_image_48 ?_
      refine rhF.aload_n (pc := 49) dX12_image_49 0 rfl ?_
      refine rhF.get (pc := 50) (rhR _) dX12_image_50 fl_X12_101 h11 rfl ?_
      refine rhF.iload_n (pc := 53) dX12_image_53 2 rfl ?_
      refine rhF.ck (fun h12 => ?_)
      refine rhF.ck (fun h13 => ?_)
      refine rhF.iald (pc := 54) dX12_image_54 h12 h13 ?_
      refine rhF.ck (fun h14 => ?_)
      refine rhF.ck (fun h15 => ?_)
      refine rhF.iast (pc := 55) dX12_image_55 h14 h15 ?_
      refine rhF.iinc (pc := 56) (L' := [(2, rhI _), (0, rhR _), (1, rhI _)]) dX12_image_56 2 rfl rfl (by decide) rfl ?_
      refine rhF.goto (pc := 59) 33 dX12_image_59 (by decide) ?_
      refine rhF.sub [1, 2, 0] rfl ?_
      exact ih _ _ _ _
    · refine rhF.sub [0, 1] rfl ?_
      exact hk62 _ _ _
set_option maxHeartbeats 4000000 in
set_option maxRecDepth 100000 in
theorem b_X12_image_64 {E : rhE} {Γ : rhG} {k92 : rhM → Nat → Int32 → Option (Int32 × rhM)} (hk92 : ∀ (M : rhM) (v0 : Nat) (v1 : Int32), rhF E 5 3 yX12_image cX12_image (some .int) Γ (rhe1I Γ) (k92 M v0 v1) 92 [(0, rhR v0), (1, rhI v1)] [] Γ M) : ∀ (n : Nat) (M : rhM) (v0 : Nat) (v1 : Int32) (v2 : Int32), rhF E 5 3 yX12_image cX12_image (some .int) Γ (rhe1I Γ) (f_X12_image_64 k92 Γ n M v0 v1 v2) 64 [(0, rhR v0), (1, rhI v1), (2, rhI v2)] [] Γ M := by
  intro n
  induction n with
  | zero => intro M v0 v1 v2; rw [f_X12_image_64]; exact rhF.nope
  | succ n ih =>
    intro M v0 v1 v2
    rw [f_X12_image_64]
    refine rhF.iload_n (pc := 64) dX12_image_64 2 rfl ?_
    refine rhF.iconst (pc := 65) (v := 5) dX12_image_65 (by decide) ?_
    refine rhF.icmp_ge (pc := 66) 92 dX12_image_66 (by decide) (fun h18 => ?_) (fun h18 => ?_)
    · refine rhF.aload_n (pc := 69) dX12_image_69 0 rfl ?_
      refine rhF.ck (fun h19 => ?_)
      refine rhF.get (pc := 70) (rhR _) dX12_image_70 fl_X12_199 h19 rfl ?_
      refine rhF.bipush (pc := 73) (v := 6) dX12_image_73 (by decide) ?_
      refine rhF.iload_n (pc := 75) dX12_image_75 1 rfl ?_
      refine rhF.imul (pc := 76) dX12_image_76 ?_
      refine rhF.iload_n (pc := 77) dX12_image_77 2 rfl ?_
      refine rhF.iadd (pc := 78) dX12_image_78 ?_
      refine rhF.aload_n (pc := 79) dX12_image_79 0 rfl ?_
      refine rhF.get (pc := 80) (rhR _) dX12_image_80 fl_X12_104 h19 rfl ?_
      refine rhF.iload_n (pc := 83) dX12_image_83 2 rfl ?_
      refine rhF.ck (fun h20 => ?_)
      refine rhF.ck (fun h21 => ?_)
      refine rhF.iald (pc := 84) dX12_image_84 h20 h21 ?_
      refine rhF.ck (fun h22 => ?_)
      refine rhF.ck (fun h23 => ?_)
      refine rhF.iast (pc := 85) dX12_image_85 h22 h23 ?_
      refine rhF.iinc (pc := 86) (L' := [(2, rhI _), (0, rhR _), (1, rhI _)]) dX12_image_86 2 rfl rfl (by decide) rfl ?_
      refine rhF.goto (pc := 89) 64 dX12_image_89 (by decide) ?_
      refine rhF.sub [1, 2, 0] rfl ?_
      exact ih _ _ _ _
    · refine rhF.sub [0, 1] rfl ?_
      exact hk92 _ _ _
set_option maxHeartbeats 4000000 in
set_option maxRecDepth 100000 in
theorem b_X12_image_94 {E : rhE} {Γ : rhG} : ∀ (n : Nat) (M : rhM) (v0 : Nat) (v1 : Int32) (v2 : Int32), rhF E 5 3 yX12_image cX12_image (some .int) Γ (rhe1I Γ) (f_X12_image_94 Γ n M v0 v1 v2) 94 [(0, rhR v0), (1, rhI v1), (2, rhI v2)] [] Γ M := by
  intro n
  induction n with
  | zero => intro M v0 v1 v2; rw [f_X12_image_94]; exact rhF.nope
  | succ n ih =>
    intro M v0 v1 v2
    rw [f_X12_image_94]
    refine rhF.iload_n (pc := 94) dX12_image_94 2 rfl ?_
    refine rhF.aload_n (pc := 95) dX12_image_95 0 rfl ?_
    refine rhF.ck (fun h26 => ?_)
    refine rhF.get (pc := 96) (rhI _) dX12_image_96 fl_X12_458 h26 rfl ?_
    refine rhF.icmp_ge (pc := 99) 144 dX12_image_99 (by decide) (fun h27 => ?_) (fun h27 => ?_)
    · refine rhF.aload_n (pc := 102) dX12_image_102 0 rfl ?_
      refine rhF.get (pc := 103) (rhR _) dX12_image_103 fl_X12_202 h26 rfl ?_
      refine rhF.sipush (pc := 106) (v := 300) dX12_image_106 (by decide) ?_
      refine rhF.iload_n (pc := 109) dX12_image_109 1 rfl ?_
      refine rhF.imul (pc := 110) dX12_image_110 ?_
      refine rhF.iload_n (pc := 111) dX12_image_111 2 rfl ?_
      refine rhF.iadd (pc := 112) dX12_image_112 ?_
      refine rhF.aload_n (pc := 113) dX12_image_113 0 rfl ?_
      refine rhF.get (pc := 114) (rhR _) dX12_image_114 fl_X12_110 h26 rfl ?_
      refine rhF.iload_n (pc := 117) dX12_image_117 2 rfl ?_
      refine rhF.ck (fun h28 => ?_)
      refine rhF.ck (fun h29 => ?_)
      refine rhF.iald (pc := 118) dX12_image_118 h28 h29 ?_
      refine rhF.ck (fun h30 => ?_)
      refine rhF.ck (fun h31 => ?_)
      refine rhF.iast (pc := 119) dX12_image_119 h30 h31 ?_
      refine rhF.aload_n (pc := 120) dX12_image_120 0 rfl ?_
      refine rhF.get (pc := 121) (rhR _) dX12_image_121 fl_X12_205 h26 rfl ?_
      refine rhF.sipush (pc := 124) (v := 300) dX12_image_124 (by decide) ?_
      refine rhF.iload_n (pc := 127) dX12_image_127 1 rfl ?_
      refine rhF.imul (pc := 128) dX12_image_128 ?_
      refine rhF.iload_n (pc := 129) dX12_image_129 2 rfl ?_
      refine rhF.iadd (pc := 130) dX12_image_130 ?_
      refine rhF.aload_n (pc := 131) dX12_image_131 0 rfl ?_
      refine rhF.get (pc := 132) (rhR _) dX12_image_132 fl_X12_113 h26 rfl ?_
      refine rhF.iload_n (pc := 135) dX12_image_135 2 rfl ?_
      refine rhF.ck (fun h33 => ?_)
      refine rhF.ck (fun h34 => ?_)
      refine rhF.iald (pc := 136) dX12_image_136 h33 h34 ?_
      refine rhF.ck (fun h35 => ?_)
      refine rhF.ck (fun h36 => ?_)
      refine rhF.iast (pc := 137) dX12_image_137 h35 h36 ?_
      refine rhF.iinc (pc := 138) (L' := [(2, rhI _), (0, rhR _), (1, rhI _)]) dX12_image_138 2 rfl rfl (by decide) rfl ?_
      refine rhF.goto (pc := 141) 94 dX12_image_141 (by decide) ?_
      refine rhF.sub [1, 2, 0] rfl ?_
      exact ih _ _ _ _
    · refine rhF.aload_n (pc := 144) dX12_image_144 0 rfl ?_
      refine rhF.get (pc := 145) (rhI _) dX12_image_145 fl_X12_458 h26 rfl ?_
      exact rhF.zret (pc := 148) dX12_image_148 rfl rfl rfl
set_option maxHeartbeats 4000000 in
set_option maxRecDepth 100000 in
theorem b_X12_image_92 {E : rhE} {Γ : rhG} : ∀ (M : rhM) (v0 : Nat) (v1 : Int32), rhF E 5 3 yX12_image cX12_image (some .int) Γ (rhe1I Γ) (f_X12_image_92 Γ M v0 v1) 92 [(0, rhR v0), (1, rhI v1)] [] Γ M := by
  intro M v0 v1
  rw [f_X12_image_92]
  refine rhF.iconst (pc := 92) (v := 0) dX12_image_92 (by decide) ?_
  refine rhF.istore_n (pc := 93) (L' := [(2, rhI _), (0, rhR _), (1, rhI _)]) dX12_image_93 (by decide) rfl ?_
  refine rhF.sub [1, 2, 0] rfl ?_
  exact (b_X12_image_94 rhFU) _ _ _ _
set_option maxHeartbeats 4000000 in
set_option maxRecDepth 100000 in
theorem b_X12_image_62 {E : rhE} {Γ : rhG} : ∀ (M : rhM) (v0 : Nat) (v1 : Int32), rhF E 5 3 yX12_image cX12_image (some .int) Γ (rhe1I Γ) (f_X12_image_62 Γ M v0 v1) 62 [(0, rhR v0), (1, rhI v1)] [] Γ M := by
  intro M v0 v1
  rw [f_X12_image_62]
  refine rhF.iconst (pc := 62) (v := 0) dX12_image_62 (by decide) ?_
  refine rhF.istore_n (pc := 63) (L' := [(2, rhI _), (0, rhR _), (1, rhI _)]) dX12_image_63 (by decide) rfl ?_
  refine rhF.sub [1, 2, 0] rfl ?_
  exact (b_X12_image_64 (b_X12_image_92) rhFU) _ _ _ _
set_option maxHeartbeats 4000000 in
set_option maxRecDepth 100000 in
theorem b_X12_image {E : rhE} {Γ : rhG} : ∀ (M : rhM) (v0 : Nat) (v1 : Int32), rhF E 5 3 yX12_image cX12_image (some .int) Γ (rhe1I Γ) (f_X12_image Γ M v0 v1) 0 [(0, rhR v0), (1, rhI v1)] [] Γ M := by
  intro M v0 v1
  rw [f_X12_image]
  refine rhF.iload_n (pc := 0) dX12_image_0 1 rfl ?_
  refine rhF.iconst (pc := 1) (v := 0) dX12_image_1 (by decide) ?_
  refine rhF.iconst (pc := 2) (v := 2) dX12_image_2 (by decide) ?_
  refine rhF.callS (pc := 3) (embc := rhe0I _ _) [rhI _, rhI _, rhI _] dX12_image_3 ml_X12_415 ms_X12_isIn (c_X12_isIn _ _ _ _ _ _) (by decide) (by decide) rfl (Nat.le_of_ble_eq_true rfl) (fun r1 _ => ?_)
  refine rhF.if_ne (pc := 6) 11 dX12_image_6 (by decide) (fun h2 => ?_) (fun h2 => ?_)
  · refine rhF.iconst (pc := 9) (v := (-1)) dX12_image_9 (by decide) ?_
    exact rhF.zret (pc := 10) dX12_image_10 rfl rfl rfl
  · refine rhF.aload_n (pc := 11) dX12_image_11 0 rfl ?_
    refine rhF.ck (fun h3 => ?_)
    refine rhF.get (pc := 12) (rhR _) dX12_image_12 fl_X12_190 h3 rfl ?_
    refine rhF.iload_n (pc := 15) dX12_image_15 1 rfl ?_
    refine rhF.aload_n (pc := 16) dX12_image_16 0 rfl ?_
    refine rhF.get (pc := 17) (rhI _) dX12_image_17 fl_X12_458 h3 rfl ?_
    refine rhF.ck (fun h4 => ?_)
    refine rhF.ck (fun h5 => ?_)
    refine rhF.iast (pc := 20) dX12_image_20 h4 h5 ?_
    refine rhF.aload_n (pc := 21) dX12_image_21 0 rfl ?_
    refine rhF.get (pc := 22) (rhR _) dX12_image_22 fl_X12_193 h3 rfl ?_
    refine rhF.iload_n (pc := 25) dX12_image_25 1 rfl ?_
    refine rhF.aload_n (pc := 26) dX12_image_26 0 rfl ?_
    refine rhF.get (pc := 27) (rhI _) dX12_image_27 fl_X12_461 h3 rfl ?_
    refine rhF.ck (fun h7 => ?_)
    refine rhF.ck (fun h8 => ?_)
    refine rhF.iast (pc := 30) dX12_image_30 h7 h8 ?_
    refine rhF.iconst (pc := 31) (v := 0) dX12_image_31 (by decide) ?_
    refine rhF.istore_n (pc := 32) (L' := [(2, rhI _), (0, rhR _), (1, rhI _)]) dX12_image_32 (by decide) rfl ?_
    refine rhF.sub [1, 2, 0] rfl ?_
    exact (b_X12_image_33 (b_X12_image_62) rhFU) _ _ _ _
theorem c_X12_image (E : rhE) (Γ : rhG) (M : rhM) (v0 : Nat) (v1 : Int32) : ∀ a, f_X12_image Γ M v0 v1 = some a → rhC E 5 yX12_image cX12_image 3 (some .int) [rhR v0, rhI v1] Γ M ((rhe1I Γ) a) := rhF.met (by decide +kernel) (Nat.le_of_ble_eq_true rfl) (b_X12_image M v0 v1)
