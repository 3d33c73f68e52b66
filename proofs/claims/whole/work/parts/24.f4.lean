def f_X11_judge_25 (k99 : rhM → Nat → Int32 → Int32 → Int32 → Option (Int32 × rhM)) (k157 : rhM → Nat → Int32 → Int32 → Int32 → Option (Int32 × rhM)) (Γ : rhG) : Nat → rhM → Nat → Int32 → Int32 → Int32 → Int32 → Option (Int32 × rhM)
  | 0, _, _, _, _, _, _ => none
  | n + 1, M, v0, v1, v2, v3, v4 =>
    rhck (Γ.2.2.1 v0 = 12) <|
    rhck (Γ.2.2.1 (M.2.2 v0 8) = 4) <|
    if v4 < (M.1 (M.2.2 v0 8) 1) then
      (rhck (Γ.2.2.1 (M.2.2 (M.2.2 v0 8) 0) = 15) <|
      rhck (0 ≤ (v4).toInt ∧ (v4).toInt < (Γ.2.2.2 (M.2.2 (M.2.2 v0 8) 0) : Nat)) <|
      (f_X3_fromOf Γ M (M.1 (M.2.2 (M.2.2 v0 8) 0) v4.toNatClampNeg)).bind fun r10 =>
      (f_X3_manyOf Γ M (M.1 (M.2.2 (M.2.2 v0 8) 0) v4.toNatClampNeg)).bind fun r11 =>
      (f_X3_toOf Γ M (M.1 (M.2.2 (M.2.2 v0 8) 0) v4.toNatClampNeg)).bind fun r12 =>
      (f_X11_isLawfulFrom Γ M v0 (M.2.2 v0 6) r10 r11 r12).bind fun r13 =>
      if r13.1 = 0 then
        (k99 r13.2 v0 v1 v2 v3)
      else
        rhck (Γ.2.2.1 (r13.2.2.2 v0 3) = 10) <|
        rhck (Γ.2.2.1 (r13.2.2.2 v0 6) = 8) <|
        (f_X7_last Γ r13.2 (r13.2.2.2 v0 6) r10 r11).bind fun r17 =>
        rhck (Γ.2.2.1 (r13.2.2.2 (r13.2.2.2 v0 3) 8) = 15) <|
        rhck (0 ≤ (r17).toInt ∧ (r17).toInt < (Γ.2.2.2 (r13.2.2.2 (r13.2.2.2 v0 3) 8) : Nat)) <|
        let x20 := v2 + (r13.2.1 (r13.2.2.2 (r13.2.2.2 v0 3) 8) r17.toNatClampNeg)
        (f_X7_after Γ r13.2 (r13.2.2.2 v0 6) r10 r11 r12).bind fun r21 =>
        (f_X7_look Γ r13.2 (r13.2.2.2 v0 6) (r13.2.2.2 v0 3) r21).bind fun r22 =>
        let x23 : Int32 := v3 + 1
        let x24 : Int32 := v4 + 1
        f_X11_judge_25 k99 k157 Γ n r22 v0 v1 x20 x23 x24)
    else
      k157 M v0 v1 v2 v3
def f_X11_judge_99 (k157 : rhM → Nat → Int32 → Int32 → Int32 → Option (Int32 × rhM)) (Γ : rhG) (M : rhM) (v0 : Nat) (v1 : Int32) (v2 : Int32) (v3 : Int32) : Option (Int32 × rhM) :=
  k157 M v0 v1 v2 v3
def f_X11_judge_157 (Γ : rhG) (M : rhM) (v0 : Nat) (v1 : Int32) (v2 : Int32) (v3 : Int32) : Option (Int32 × rhM) :=
  if v1 = 0 then
    (rhck (Γ.2.2.1 v0 = 12) <|
    rhck (Γ.2.2.1 (M.2.2 v0 8) = 4) <|
    if v3 = (M.1 (M.2.2 v0 8) 1) then
      (some (((-1), M)))
    else
      some ((v3, M)))
  else
  if v1 = 1 then
    (some ((v2, M)))
  else
  if v1 = 2 then
    (rhck (Γ.2.2.1 v0 = 12) <|
    rhck (Γ.2.2.1 (M.2.2 v0 6) = 8) <|
    rhck (Γ.2.2.1 (M.2.2 v0 3) = 10) <|
    (f_X9_worthOf Γ M (M.2.2 v0 3) (M.2.1 (M.2.2 v0 6) 0)).bind fun r34 =>
    some ((r34, M)))
  else
  some (((-1000000), M))
def f_X11_judge (Γ : rhG) (M : rhM) (v0 : Nat) (v1 : Int32) : Option (Int32 × rhM) :=
  rhck (Γ.2.2.1 v0 = 12) <|
  rhck (Γ.2.2.1 (M.2.2 v0 5) = 8) <|
  rhck (Γ.2.2.1 (M.2.2 v0 6) = 8) <|
  (f_X7_look Γ M (M.2.2 v0 6) (M.2.2 v0 3) (M.2.1 (M.2.2 v0 5) 0)).bind fun r4 =>
  f_X11_judge_25 (f_X11_judge_99 (f_X11_judge_157 Γ) Γ) (f_X11_judge_157 Γ) Γ rhFU r4 v0 v1 0 0 0
set_option maxHeartbeats 4000000 in
set_option maxRecDepth 100000 in
theorem b_X11_judge_25 {E : rhE} {Γ : rhG} {k99 : rhM → Nat → Int32 → Int32 → Int32 → Option (Int32 × rhM)} {k157 : rhM → Nat → Int32 → Int32 → Int32 → Option (Int32 × rhM)} (hk99 : ∀ (M : rhM) (v0 : Nat) (v1 : Int32) (v2 : Int32) (v3 : Int32), rhF E 8 8 yX11_judge cX11_judge (some .int) Γ (rhe1I Γ) (k99 M v0 v1 v2 v3) 99 [(0, rhR v0), (1, rhI v1), (2, rhI v2), (3, rhI v3)] [] Γ M) (hk157 : ∀ (M : rhM) (v0 : Nat) (v1 : Int32) (v2 : Int32) (v3 : Int32), rhF E 8 8 yX11_judge cX11_judge (some .int) Γ (rhe1I Γ) (k157 M v0 v1 v2 v3) 157 [(0, rhR v0), (1, rhI v1), (2, rhI v2), (3, rhI v3)] [] Γ M) : ∀ (n : Nat) (M : rhM) (v0 : Nat) (v1 : Int32) (v2 : Int32) (v3 : Int32) (v4 : Int32), rhF E 8 8 yX11_judge cX11_judge (some .int) Γ (rhe1I Γ) (f_X11_judge_25 k99 k157 Γ n M v0 v1 v2 v3 v4) 25 [(0, rhR v0), (1, rhI v1), (2, rhI v2), (3, rhI v3), (4, rhI v4)] [] Γ M := by
  intro n
  induction n with
  | zero => intro M v0 v1 v2 v3 v4; rw [f_X11_judge_25]; exact rhF.nope
  | succ n ih =>
    intro M v0 v1 v2 v3 v4
    rw [f_X11_judge_25]
    refine rhF.iload (pc := 25) dX11_judge_25 4 rfl ?_
    refine rhF.aload_n (pc := 27) dX11_judge_27 0 rfl ?_
    refine rhF.ck (fun h5 => ?_)
    refine rhF.get (pc := 28) (rhR _) dX11_judge_28 fl_X11_49 h5 rfl ?_
    refine rhF.ck (fun h6 => ?_)
    refine rhF.get (pc := 31) (rhI _) dX11_judge_31 fl_X11_184 h6 rfl ?_
    refine rhF.icmp_ge (pc := 34) 157 dX11_judge_34 (by decide) (fun h7 => ?_) (fun h7 => ?_)
    · refine rhF.aload_n (pc := 37) dX11_judge_37 0 rfl ?_
      refine rhF.get (pc := 38) (rhR _) dX11_judge_38 fl_X11_49 h5 rfl ?_
      refine rhF.get (pc := 41) (rhR _) dX11_judge_41 fl_X11_192 h6 rfl ?_
      refine rhF.iload (pc := 44) dX11_judge_44 4 rfl ?_
      refine rhF.ck (fun h8 => ?_)
      refine rhF.ck (fun h9 => ?_)
      refine rhF.iald (pc := 46) dX11_judge_46 h8 h9 ?_
      refine rhF.callS (pc := 47) (embc := rhe0I _ _) [rhI _] dX11_judge_47 ml_X11_198 ms_X3_fromOf (c_X3_fromOf _ _ _ _) (by decide) (by decide) rfl (Nat.le_of_ble_eq_true rfl) (fun r10 _ => ?_)
      refine rhF.istore (pc := 50) (L' := [(5, rhI _), (0, rhR _), (1, rhI _), (2, rhI _), (3, rhI _), (4, rhI _)]) dX11_judge_50 (by decide) rfl ?_
      refine rhF.aload_n (pc := 52) dX11_judge_52 1 rfl ?_
      refine rhF.get (pc := 53) (rhR _) dX11_judge_53 fl_X11_49 h5 rfl ?_
      refine rhF.get (pc := 56) (rhR _) dX11_judge_56 fl_X11_192 h6 rfl ?_
      refine rhF.iload (pc := 59) dX11_judge_59 5 rfl ?_
      refine rhF.iald (pc := 61) dX11_judge_61 h8 h9 ?_
      refine rhF.callS (pc := 62) (embc := rhe0I _ _) [rhI _] dX11_judge_62 ml_X11_201 ms_X3_manyOf (c_X3_manyOf _ _ _ _) (by decide) (by decide) rfl (Nat.le_of_ble_eq_true rfl) (fun r11 _ => ?_)
      refine rhF.istore (pc := 65) (L' := [(6, rhI _), (5, rhI _), (0, rhR _), (1, rhI _), (2, rhI _), (3, rhI _), (4, rhI _)]) dX11_judge_65 (by decide) rfl ?_
      refine rhF.aload_n (pc := 67) dX11_judge_67 2 rfl ?_
      refine rhF.get (pc := 68) (rhR _) dX11_judge_68 fl_X11_49 h5 rfl ?_
      refine rhF.get (pc := 71) (rhR _) dX11_judge_71 fl_X11_192 h6 rfl ?_
      refine rhF.iload (pc := 74) dX11_judge_74 6 rfl ?_
      refine rhF.iald (pc := 76) dX11_judge_76 h8 h9 ?_
      refine rhF.callS (pc := 77) (embc := rhe0I _ _) [rhI _] dX11_judge_77 ml_X11_204 ms_X3_toOf (c_X3_toOf _ _ _ _) (by decide) (by decide) rfl (Nat.le_of_ble_eq_true rfl) (fun r12 _ => ?_)
      refine rhF.istore (pc := 80) (L' := [(7, rhI _), (6, rhI _), (5, rhI _), (0, rhR _), (1, rhI _), (2, rhI _), (3, rhI _), (4, rhI _)]) dX11_judge_80 (by decide) rfl ?_
      refine rhF.aload_n (pc := 82) dX11_judge_82 3 rfl ?_
      refine rhF.aload_n (pc := 83) dX11_judge_83 3 rfl ?_
      refine rhF.get (pc := 84) (rhR _) dX11_judge_84 fl_X11_37 h5 rfl ?_
      refine rhF.iload (pc := 87) dX11_judge_87 2 rfl ?_
      refine rhF.iload (pc := 89) dX11_judge_89 1 rfl ?_
      refine rhF.iload (pc := 91) dX11_judge_91 0 rfl ?_
      refine rhF.callV (pc := 93) (ci := 11) (embc := rhe1I _) [rhR _, rhI _, rhI _, rhI _] dX11_judge_93 ml_X11_164 mv_X11_isLawfulFrom ⟨_, rfl, rfl⟩ h5 (c_X11_isLawfulFrom _ _ _ _ _ _ _ _) (by decide) (by decide) rfl (Nat.le_of_ble_eq_true rfl) (fun r13 _ => ?_)
      refine rhF.if_ne (pc := 96) 102 dX11_judge_96 (by decide) (fun h14 => ?_) (fun h14 => ?_)
      · refine rhF.sub [3, 4, 5, 6] rfl ?_
        exact hk99 _ _ _ _ _
      · refine rhF.iload_n (pc := 102) dX11_judge_102 5 rfl ?_
        refine rhF.aload_n (pc := 103) dX11_judge_103 3 rfl ?_
        refine rhF.get (pc := 104) (rhR _) dX11_judge_104 fl_X11_23 h5 rfl ?_
        refine rhF.ck (fun h15 => ?_)
        refine rhF.get (pc := 107) (rhR _) dX11_judge_107 fl_X11_167 h15 rfl ?_
        refine rhF.aload_n (pc := 110) dX11_judge_110 3 rfl ?_
        refine rhF.get (pc := 111) (rhR _) dX11_judge_111 fl_X11_37 h5 rfl ?_
        refine rhF.iload (pc := 114) dX11_judge_114 2 rfl ?_
        refine rhF.iload (pc := 116) dX11_judge_116 1 rfl ?_
        refine rhF.ck (fun h16 => ?_)
        refine rhF.callV (pc := 118) (ci := 7) (embc := rhe0I _ _) [rhI _, rhI _] dX11_judge_118 ml_X11_152 mv_X7_last ⟨_, rfl, rfl⟩ h16 (c_X7_last _ _ _ _ _ _) (by decide) (by decide) rfl (Nat.le_of_ble_eq_true rfl) (fun r17 _ => ?_)
        refine rhF.ck (fun h18 => ?_)
        refine rhF.ck (fun h19 => ?_)
        refine rhF.iald (pc := 121) dX11_judge_121 h18 h19 ?_
        refine rhF.iadd (pc := 122) dX11_judge_122 ?_
        refine rhF.istore_n (pc := 123) (L' := [(2, rhI _), (7, rhI _), (6, rhI _), (5, rhI _), (0, rhR _), (1, rhI _), (3, rhI _), (4, rhI _)]) dX11_judge_123 (by decide) rfl ?_
        refine rhF.aload_n (pc := 124) dX11_judge_124 4 rfl ?_
        refine rhF.get (pc := 125) (rhR _) dX11_judge_125 fl_X11_37 h5 rfl ?_
        refine rhF.aload_n (pc := 128) dX11_judge_128 4 rfl ?_
        refine rhF.get (pc := 129) (rhR _) dX11_judge_129 fl_X11_23 h5 rfl ?_
        refine rhF.aload_n (pc := 132) dX11_judge_132 4 rfl ?_
        refine rhF.get (pc := 133) (rhR _) dX11_judge_133 fl_X11_37 h5 rfl ?_
        refine rhF.iload (pc := 136) dX11_judge_136 3 rfl ?_
        refine rhF.iload (pc := 138) dX11_judge_138 2 rfl ?_
        refine rhF.iload (pc := 140) dX11_judge_140 1 rfl ?_
        refine rhF.callV (pc := 142) (ci := 7) (embc := rhe0J _ _) [rhI _, rhI _, rhI _] dX11_judge_142 ml_X11_180 mv_X7_after ⟨_, rfl, rfl⟩ h16 (c_X7_after _ _ _ _ _ _ _) (by decide) (by decide) rfl (Nat.le_of_ble_eq_true rfl) (fun r21 _ => ?_)
        refine rhF.callV (pc := 145) (ci := 7) (embc := rhe1U _) [rhR _, rhJ _] dX11_judge_145 ml_X11_91 mv_X7_look ⟨_, rfl, rfl⟩ h16 (c_X7_look _ _ _ _ _ _) (by decide) (by decide) rfl (Nat.le_of_ble_eq_true rfl) (fun r22 _ => ?_)
        refine rhF.iinc (pc := 148) (L' := [(3, rhI _), (2, rhI _), (7, rhI _), (6, rhI _), (5, rhI _), (0, rhR _), (1, rhI _), (4, rhI _)]) dX11_judge_148 6 rfl rfl (by decide) rfl ?_
        refine rhF.iinc (pc := 151) (L' := [(4, rhI _), (3, rhI _), (2, rhI _), (7, rhI _), (6, rhI _), (5, rhI _), (0, rhR _), (1, rhI _)]) dX11_judge_151 7 rfl rfl (by decide) rfl ?_
        refine rhF.goto (pc := 154) 25 dX11_judge_154 (by decide) ?_
        refine rhF.sub [6, 7, 2, 1, 0] rfl ?_
        exact ih _ _ _ _ _ _
    · refine rhF.sub [0, 1, 2, 3] rfl ?_
      exact hk157 _ _ _ _ _
set_option maxHeartbeats 4000000 in
set_option maxRecDepth 100000 in
theorem b_X11_judge_99 {E : rhE} {Γ : rhG} {k157 : rhM → Nat → Int32 → Int32 → Int32 → Option (Int32 × rhM)} (hk157 : ∀ (M : rhM) (v0 : Nat) (v1 : Int32) (v2 : Int32) (v3 : Int32), rhF E 8 8 yX11_judge cX11_judge (some .int) Γ (rhe1I Γ) (k157 M v0 v1 v2 v3) 157 [(0, rhR v0), (1, rhI v1), (2, rhI v2), (3, rhI v3)] [] Γ M) : ∀ (M : rhM) (v0 : Nat) (v1 : Int32) (v2 : Int32) (v3 : Int32), rhF E 8 8 yX11_judge cX11_judge (some .int) Γ (rhe1I Γ) (f_X11_judge_99 k157 Γ M v0 v1 v2 v3) 99 [(0, rhR v0), (1, rhI v1), (2, rhI v2), (3, rhI v3)] [] Γ M := by
  intro M v0 v1 v2 v3
  rw [f_X11_judge_99]
  refine rhF.goto (pc := 99) 157 dX11_judge_99 (by decide) ?_
  exact hk157 _ _ _ _ _
set_option maxHeartbeats 4000000 in
set_option maxRecDepth 100000 in
theorem b_X11_judge_157 {E : rhE} {Γ : rhG} : ∀ (M : rhM) (v0 : Nat) (v1 : Int32) (v2 : Int32) (v3 : Int32), rhF E 8 8 yX11_judge cX11_judge (some .int) Γ (rhe1I Γ) (f_X11_judge_157 Γ M v0 v1 v2 v3) 157 [(0, rhR v0), (1, rhI v1), (2, rhI v2), (3, rhI v3)] [] Γ M := by
  intro M v0 v1 v2 v3
  rw [f_X11_judge_157]
  refine rhF.iload_n (pc := 157) dX11_judge_157 1 rfl ?_
  refine rhF.ite (fun h25 => ?_) (fun h25 => ?_)
  · refine rhF.tsIn (pc := 158) 184 0 dX11_judge_158 (by rw [h25]; decide) (by decide) rfl (by decide) ?_
    refine rhF.iload_n (pc := 184) dX11_judge_184 3 rfl ?_
    refine rhF.aload_n (pc := 185) dX11_judge_185 0 rfl ?_
    refine rhF.ck (fun h26 => ?_)
    refine rhF.get (pc := 186) (rhR _) dX11_judge_186 fl_X11_49 h26 rfl ?_
    refine rhF.ck (fun h27 => ?_)
    refine rhF.get (pc := 189) (rhI _) dX11_judge_189 fl_X11_184 h27 rfl ?_
    refine rhF.icmp_ne (pc := 192) 199 dX11_judge_192 (by decide) (fun h28 => ?_) (fun h28 => ?_)
    · refine rhF.iconst (pc := 195) (v := (-1)) dX11_judge_195 (by decide) ?_
      refine rhF.goto (pc := 196) 200 dX11_judge_196 (by decide) ?_
      exact rhF.zret (pc := 200) dX11_judge_200 rfl rfl rfl
    · refine rhF.iload_n (pc := 199) dX11_judge_199 3 rfl ?_
      exact rhF.zret (pc := 200) dX11_judge_200 rfl rfl rfl
  · skip
    refine rhF.ite (fun h29 => ?_) (fun h29 => ?_)
    · refine rhF.tsIn (pc := 158) 201 1 dX11_judge_158 (by rw [h29]; decide) (by decide) rfl (by decide) ?_
      refine rhF.iload_n (pc := 201) dX11_judge_201 2 rfl ?_
      exact rhF.zret (pc := 202) dX11_judge_202 rfl rfl rfl
    · skip
      refine rhF.ite (fun h30 => ?_) (fun h30 => ?_)
      · refine rhF.tsIn (pc := 158) 203 2 dX11_judge_158 (by rw [h30]; decide) (by decide) rfl (by decide) ?_
        refine rhF.aload_n (pc := 203) dX11_judge_203 0 rfl ?_
        refine rhF.ck (fun h31 => ?_)
        refine rhF.get (pc := 204) (rhR _) dX11_judge_204 fl_X11_23 h31 rfl ?_
        refine rhF.aload_n (pc := 207) dX11_judge_207 0 rfl ?_
        refine rhF.get (pc := 208) (rhR _) dX11_judge_208 fl_X11_37 h31 rfl ?_
        refine rhF.ck (fun h32 => ?_)
        refine rhF.get (pc := 211) (rhJ _) dX11_judge_211 fl_X11_207 h32 rfl ?_
        refine rhF.ck (fun h33 => ?_)
        refine rhF.callV (pc := 214) (ci := 9) (embc := rhe0I _ _) [rhJ _] dX11_judge_214 ml_X11_210 mv_X9_worthOf ⟨_, rfl, rfl⟩ h33 (c_X9_worthOf _ _ _ _ _) (by decide) (by decide) rfl (Nat.le_of_ble_eq_true rfl) (fun r34 _ => ?_)
        exact rhF.zret (pc := 217) dX11_judge_217 rfl rfl rfl
      · skip
        have zh25 := rhne h25 (n := 0) (by decide)
        have zh29 := rhne h29 (n := 1) (by decide)
        have zh30 := rhne h30 (n := 2) (by decide)
        refine rhF.tsOut (pc := 158) 218 dX11_judge_158 (by omega) (by decide) ?_
        refine rhF.ldc (pc := 218) dX11_judge_218 k_X11_159 ?_
        exact rhF.zret (pc := 220) dX11_judge_220 rfl rfl rfl
set_option maxHeartbeats 4000000 in
set_option maxRecDepth 100000 in
theorem b_X11_judge {E : rhE} {Γ : rhG} : ∀ (M : rhM) (v0 : Nat) (v1 : Int32), rhF E 8 8 yX11_judge cX11_judge (some .int) Γ (rhe1I Γ) (f_X11_judge Γ M v0 v1) 0 [(0, rhR v0), (1, rhI v1)] [] Γ M := by
  intro M v0 v1
  rw [f_X11_judge]
  refine rhF.aload_n (pc := 0) dX11_judge_0 0 rfl ?_
  refine rhF.ck (fun h1 => ?_)
  refine rhF.get (pc := 1) (rhR _) dX11_judge_1 fl_X11_37 h1 rfl ?_
  refine rhF.aload_n (pc := 4) dX11_judge_4 0 rfl ?_
  refine rhF.get (pc := 5) (rhR _) dX11_judge_5 fl_X11_23 h1 rfl ?_
  refine rhF.aload_n (pc := 8) dX11_judge_8 0 rfl ?_
  refine rhF.get (pc := 9) (rhR _) dX11_judge_9 fl_X11_33 h1 rfl ?_
  refine rhF.ck (fun h2 => ?_)
  refine rhF.get (pc := 12) (rhJ _) dX11_judge_12 fl_X11_207 h2 rfl ?_
  refine rhF.ck (fun h3 => ?_)
  refine rhF.callV (pc := 15) (ci := 7) (embc := rhe1U _) [rhR _, rhJ _] dX11_judge_15 ml_X11_91 mv_X7_look ⟨_, rfl, rfl⟩ h3 (c_X7_look _ _ _ _ _ _) (by decide) (by decide) rfl (Nat.le_of_ble_eq_true rfl) (fun r4 _ => ?_)
  refine rhF.iconst (pc := 18) (v := 0) dX11_judge_18 (by decide) ?_
  refine rhF.istore_n (pc := 19) (L' := [(2, rhI _), (0, rhR _), (1, rhI _)]) dX11_judge_19 (by decide) rfl ?_
  refine rhF.iconst (pc := 20) (v := 0) dX11_judge_20 (by decide) ?_
  refine rhF.istore_n (pc := 21) (L' := [(3, rhI _), (2, rhI _), (0, rhR _), (1, rhI _)]) dX11_judge_21 (by decide) rfl ?_
  refine rhF.iconst (pc := 22) (v := 0) dX11_judge_22 (by decide) ?_
  refine rhF.istore (pc := 23) (L' := [(4, rhI _), (3, rhI _), (2, rhI _), (0, rhR _), (1, rhI _)]) dX11_judge_23 (by decide) rfl ?_
  refine rhF.sub [3, 4, 2, 1, 0] rfl ?_
  exact (b_X11_judge_25 (b_X11_judge_99 (b_X11_judge_157)) (b_X11_judge_157) rhFU) _ _ _ _ _ _
theorem c_X11_judge (E : rhE) (Γ : rhG) (M : rhM) (v0 : Nat) (v1 : Int32) : ∀ a, f_X11_judge Γ M v0 v1 = some a → rhC E 8 yX11_judge cX11_judge 8 (some .int) [rhR v0, rhI v1] Γ M ((rhe1I Γ) a) := rhF.met (by decide +kernel) (Nat.le_of_ble_eq_true rfl) (b_X11_judge M v0 v1)
def f_X11_later (Γ : rhG) (M : rhM) (v0 : Nat) (v1 : Int32) : Option (Int32 × rhM) :=
  if v1 < 0 then
    (some (((-1), M)))
  else
    if 1000 < v1 then
      (some (((-1), M)))
    else
      rhck (Γ.2.2.1 v0 = 12) <|
      if 100000 < ((M.1 v0 16) + v1) then
        (some (((-1), M)))
      else
        let M5 := rhsi M v0 16 ((M.1 v0 16) + v1)
        some ((M5.1 v0 16, M5))
set_option maxHeartbeats 4000000 in
set_option maxRecDepth 100000 in
theorem b_X11_later {E : rhE} {Γ : rhG} : ∀ (M : rhM) (v0 : Nat) (v1 : Int32), rhF E 1 2 yX11_later cX11_later (some .int) Γ (rhe1I Γ) (f_X11_later Γ M v0 v1) 0 [(0, rhR v0), (1, rhI v1)] [] Γ M := by
  intro M v0 v1
  rw [f_X11_later]
  refine rhF.iload_n (pc := 0) dX11_later_0 1 rfl ?_
  refine rhF.if_lt (pc := 1) 23 dX11_later_1 (by decide) (fun h1 => ?_) (fun h1 => ?_)
  · refine rhF.iconst (pc := 23) (v := (-1)) dX11_later_23 (by decide) ?_
    exact rhF.zret (pc := 24) dX11_later_24 rfl rfl rfl
  · refine rhF.iload_n (pc := 4) dX11_later_4 1 rfl ?_
    refine rhF.sipush (pc := 5) (v := 1000) dX11_later_5 (by decide) ?_
    refine rhF.icmp_gt (pc := 8) 23 dX11_later_8 (by decide) (fun h2 => ?_) (fun h2 => ?_)
    · refine rhF.iconst (pc := 23) (v := (-1)) dX11_later_23 (by decide) ?_
      exact rhF.zret (pc := 24) dX11_later_24 rfl rfl rfl
    · refine rhF.aload_n (pc := 11) dX11_later_11 0 rfl ?_
      refine rhF.ck (fun h3 => ?_)
      refine rhF.get (pc := 12) (rhI _) dX11_later_12 fl_X11_280 h3 rfl ?_
      refine rhF.iload_n (pc := 15) dX11_later_15 1 rfl ?_
      refine rhF.iadd (pc := 16) dX11_later_16 ?_
      refine rhF.ldcw (pc := 17) dX11_later_17 k_X11_289 ?_
      refine rhF.icmp_le (pc := 20) 25 dX11_later_20 (by decide) (fun h4 => ?_) (fun h4 => ?_)
      · refine rhF.iconst (pc := 23) (v := (-1)) dX11_later_23 (by decide) ?_
        exact rhF.zret (pc := 24) dX11_later_24 rfl rfl rfl
      · refine rhF.aload_n (pc := 25) dX11_later_25 0 rfl ?_
        refine rhF.dupr (pc := 26) dX11_later_26 ?_
        refine rhF.get (pc := 27) (rhI _) dX11_later_27 fl_X11_280 h3 rfl ?_
        refine rhF.iload_n (pc := 30) dX11_later_30 1 rfl ?_
        refine rhF.iadd (pc := 31) dX11_later_31 ?_
        refine rhF.puti (pc := 32) dX11_later_32 fl_X11_280 h3 (fun q hq => by cases hq; exact Or.inl rfl) ⟨rfl, rfl⟩ (fun _ => rfl) ?_
        refine rhF.aload_n (pc := 35) dX11_later_35 0 rfl ?_
        refine rhF.get (pc := 36) (rhI _) dX11_later_36 fl_X11_280 h3 rfl ?_
        exact rhF.zret (pc := 39) dX11_later_39 rfl rfl rfl
theorem c_X11_later (E : rhE) (Γ : rhG) (M : rhM) (v0 : Nat) (v1 : Int32) : ∀ a, f_X11_later Γ M v0 v1 = some a → rhC E 1 yX11_later cX11_later 2 (some .int) [rhR v0, rhI v1] Γ M ((rhe1I Γ) a) := rhF.met (by decide +kernel) (Nat.le_of_ble_eq_true rfl) (b_X11_later M v0 v1)
def f_X11_lawful (Γ : rhG) (M : rhM) (v0 : Nat) (v1 : Int32) (v2 : Int32) (v3 : Int32) : Option (Int32 × rhM) :=
  rhck (Γ.2.2.1 v0 = 12) <|
  (f_X11_isLawfulFrom Γ M v0 (M.2.2 v0 5) v1 v2 v3).bind fun r2 =>
  if r2.1 = 0 then
    (some ((0, r2.2)))
  else
    some ((1, r2.2))
set_option maxHeartbeats 4000000 in
set_option maxRecDepth 100000 in
theorem b_X11_lawful {E : rhE} {Γ : rhG} : ∀ (M : rhM) (v0 : Nat) (v1 : Int32) (v2 : Int32) (v3 : Int32), rhF E 8 4 yX11_lawful cX11_lawful (some .int) Γ (rhe1I Γ) (f_X11_lawful Γ M v0 v1 v2 v3) 0 [(0, rhR v0), (1, rhI v1), (2, rhI v2), (3, rhI v3)] [] Γ M := by
  intro M v0 v1 v2 v3
  rw [f_X11_lawful]
  refine rhF.aload_n (pc := 0) dX11_lawful_0 0 rfl ?_
  refine rhF.aload_n (pc := 1) dX11_lawful_1 0 rfl ?_
  refine rhF.ck (fun h1 => ?_)
  refine rhF.get (pc := 2) (rhR _) dX11_lawful_2 fl_X11_33 h1 rfl ?_
  refine rhF.iload_n (pc := 5) dX11_lawful_5 1 rfl ?_
  refine rhF.iload_n (pc := 6) dX11_lawful_6 2 rfl ?_
  refine rhF.iload_n (pc := 7) dX11_lawful_7 3 rfl ?_
  refine rhF.callV (pc := 8) (ci := 11) (embc := rhe1I _) [rhR _, rhI _, rhI _, rhI _] dX11_lawful_8 ml_X11_164 mv_X11_isLawfulFrom ⟨_, rfl, rfl⟩ h1 (c_X11_isLawfulFrom _ _ _ _ _ _ _ _) (by decide) (by decide) rfl (Nat.le_of_ble_eq_true rfl) (fun r2 _ => ?_)
  refine rhF.if_eq (pc := 11) 18 dX11_lawful_11 (by decide) (fun h3 => ?_) (fun h3 => ?_)
  · refine rhF.iconst (pc := 18) (v := 0) dX11_lawful_18 (by decide) ?_
    exact rhF.zret (pc := 19) dX11_lawful_19 rfl rfl rfl
  · refine rhF.iconst (pc := 14) (v := 1) dX11_lawful_14 (by decide) ?_
    refine rhF.goto (pc := 15) 19 dX11_lawful_15 (by decide) ?_
    exact rhF.zret (pc := 19) dX11_lawful_19 rfl rfl rfl
theorem c_X11_lawful (E : rhE) (Γ : rhG) (M : rhM) (v0 : Nat) (v1 : Int32) (v2 : Int32) (v3 : Int32) : ∀ a, f_X11_lawful Γ M v0 v1 v2 v3 = some a → rhC E 8 yX11_lawful cX11_lawful 4 (some .int) [rhR v0, rhI v1, rhI v2, rhI v3] Γ M ((rhe1I Γ) a) := rhF.met (by decide +kernel) (Nat.le_of_ble_eq_true rfl) (b_X11_lawful M v0 v1 v2 v3)
def f_X11_least (Γ : rhG) (M : rhM) (v0 : Nat) : Option (Int32 × rhG × rhM) :=
  rhck (Γ.2.2.1 v0 = 12) <|
  rhck (Γ.2.2.1 (M.2.2 v0 9) = 4) <|
  (f_X3_clear Γ M (M.2.2 v0 9)).bind fun r3 =>
  (f_X11_isSpent Γ r3 v0).bind fun r4 =>
  if r4 = 0 then
    ((f_X11_readySearch Γ r3 v0).bind fun r6 =>
    rhck (r6.1.2.2.1 v0 = 12) <|
    rhck (r6.1.2.2.1 (r6.2.2.2 v0 15) = 6) <|
    (f_X5_seekRow r6.1 r6.2 (r6.2.2.2 v0 15) (r6.2.2.1 v0 10) (r6.2.1 v0 11)).bind fun r9 =>
    rhck (r6.1.2.2.1 (r9.2.2 v0 5) = 8) <|
    rhck (r6.1.2.2.1 (r9.2.2 v0 15) = 6) <|
    (f_X5_weigh r6.1 r9 (r9.2.2 v0 15) (r9.2.2 v0 3) (r9.2.1 (r9.2.2 v0 5) 0)).bind fun r12 =>
    let x13 := r12.1
    (f_X11_lay r6.1 r12.2 v0 x13).bind fun r14 =>
    if r14.1 = ((-1)) then
      (some (((-1), r14.2.1, r14.2.2)))
    else
      rhck (r14.2.1.2.2.1 v0 = 12) <|
      rhck (r14.2.1.2.2.1 (r14.2.2.2.2 v0 15) = 6) <|
      (f_X5_weightTo r14.2.1 r14.2.2 (r14.2.2.2.2 v0 15) x13).bind fun r18 =>
      some ((r18, r14.2.1, r14.2.2)))
  else
    some (((-2), Γ, r3))
set_option maxHeartbeats 4000000 in
set_option maxRecDepth 100000 in
theorem b_X11_least {E : rhE} {Γ0 : rhG} : ∀ (Γ : rhG) (M : rhM) (v0 : Nat), rhF E 11 2 yX11_least cX11_least (some .int) Γ0 rhe2I (f_X11_least Γ M v0) 0 [(0, rhR v0)] [] Γ M := by
  intro Γ M v0
  rw [f_X11_least]
  refine rhF.aload_n (pc := 0) dX11_least_0 0 rfl ?_
  refine rhF.ck (fun h1 => ?_)
  refine rhF.get (pc := 1) (rhR _) dX11_least_1 fl_X11_52 h1 rfl ?_
  refine rhF.ck (fun h2 => ?_)
  refine rhF.callV (pc := 4) (ci := 3) (embc := rhe1U _) [] dX11_least_4 ml_X11_95 mv_X3_clear ⟨_, rfl, rfl⟩ h2 (c_X3_clear _ _ _ _) (by decide) (by decide) rfl (Nat.le_of_ble_eq_true rfl) (fun r3 _ => ?_)
  refine rhF.aload_n (pc := 7) dX11_least_7 0 rfl ?_
  refine rhF.callV (pc := 8) (ci := 11) (embc := rhe0I _ _) [] dX11_least_8 ml_X11_221 mv_X11_isSpent ⟨_, rfl, rfl⟩ h1 (c_X11_isSpent _ _ _ _) (by decide) (by decide) rfl (Nat.le_of_ble_eq_true rfl) (fun r4 _ => ?_)
  refine rhF.if_eq (pc := 11) 17 dX11_least_11 (by decide) (fun h5 => ?_) (fun h5 => ?_)
  · refine rhF.aload_n (pc := 17) dX11_least_17 0 rfl ?_
    refine rhF.callV (pc := 18) (ci := 11) (embc := rhe2U) [] dX11_least_18 ml_X11_225 mv_X11_readySearch ⟨_, rfl, rfl⟩ h1 (c_X11_readySearch _ _ _ _) (by decide) (by decide) rfl (Nat.le_of_ble_eq_true rfl) (fun r6 _ => ?_)
    refine rhF.aload_n (pc := 21) dX11_least_21 0 rfl ?_
    refine rhF.ck (fun h7 => ?_)
    refine rhF.get (pc := 22) (rhR _) dX11_least_22 fl_X11_228 h7 rfl ?_
    refine rhF.aload_n (pc := 25) dX11_least_25 0 rfl ?_
    refine rhF.get (pc := 26) (rhJ _) dX11_least_26 fl_X11_98 h7 rfl ?_
    refine rhF.aload_n (pc := 29) dX11_least_29 0 rfl ?_
    refine rhF.get (pc := 30) (rhI _) dX11_least_30 fl_X11_101 h7 rfl ?_
    refine rhF.ck (fun h8 => ?_)
    refine rhF.callV (pc := 33) (ci := 5) (embc := rhe1U _) [rhJ _, rhI _] dX11_least_33 ml_X11_232 mv_X5_seekRow ⟨_, rfl, rfl⟩ h8 (c_X5_seekRow _ _ _ _ _ _) (by decide) (by decide) rfl (Nat.le_of_ble_eq_true rfl) (fun r9 _ => ?_)
    refine rhF.aload_n (pc := 36) dX11_least_36 0 rfl ?_
    refine rhF.get (pc := 37) (rhR _) dX11_least_37 fl_X11_228 h7 rfl ?_
    refine rhF.aload_n (pc := 40) dX11_least_40 0 rfl ?_
    refine rhF.get (pc := 41) (rhR _) dX11_least_41 fl_X11_23 h7 rfl ?_
    refine rhF.aload_n (pc := 44) dX11_least_44 0 rfl ?_
    refine rhF.get (pc := 45) (rhR _) dX11_least_45 fl_X11_33 h7 rfl ?_
    refine rhF.ck (fun h10 => ?_)
    refine rhF.get (pc := 48) (rhJ _) dX11_least_48 fl_X11_207 h10 rfl ?_
    refine rhF.ck (fun h11 => ?_)
    refine rhF.callV (pc := 51) (ci := 5) (embc := rhe1I _) [rhR _, rhJ _] dX11_least_51 ml_X11_246 mv_X5_weigh ⟨_, rfl, rfl⟩ h11 (c_X5_weigh _ _ _ _ _ _) (by decide) (by decide) rfl (Nat.le_of_ble_eq_true rfl) (fun r12 _ => ?_)
    refine rhF.istore_n (pc := 54) (L' := [(1, rhI _), (0, rhR _)]) dX11_least_54 (by decide) rfl ?_
    refine rhF.aload_n (pc := 55) dX11_least_55 1 rfl ?_
    refine rhF.iload_n (pc := 56) dX11_least_56 0 rfl ?_
    refine rhF.callV (pc := 57) (ci := 11) (embc := rhe2I) [rhI _] dX11_least_57 ml_X11_243 mv_X11_lay ⟨_, rfl, rfl⟩ h7 (c_X11_lay _ _ _ _ _) (by decide) (by decide) rfl (Nat.le_of_ble_eq_true rfl) (fun r14 _ => ?_)
    refine rhF.iconst (pc := 60) (v := (-1)) dX11_least_60 (by decide) ?_
    refine rhF.icmp_ne (pc := 61) 68 dX11_least_61 (by decide) (fun h15 => ?_) (fun h15 => ?_)
    · refine rhF.iconst (pc := 64) (v := (-1)) dX11_least_64 (by decide) ?_
      refine rhF.goto (pc := 65) 76 dX11_least_65 (by decide) ?_
      exact rhF.zret (pc := 76) dX11_least_76 rfl rfl rfl
    · refine rhF.aload_n (pc := 68) dX11_least_68 1 rfl ?_
      refine rhF.ck (fun h16 => ?_)
      refine rhF.get (pc := 69) (rhR _) dX11_least_69 fl_X11_228 h16 rfl ?_
      refine rhF.iload_n (pc := 72) dX11_least_72 0 rfl ?_
      refine rhF.ck (fun h17 => ?_)
      refine rhF.callV (pc := 73) (ci := 5) (embc := rhe0I _ _) [rhI _] dX11_least_73 ml_X11_250 mv_X5_weightTo ⟨_, rfl, rfl⟩ h17 (c_X5_weightTo _ _ _ _ _) (by decide) (by decide) rfl (Nat.le_of_ble_eq_true rfl) (fun r18 _ => ?_)
      exact rhF.zret (pc := 76) dX11_least_76 rfl rfl rfl
  · refine rhF.bipush (pc := 14) (v := (-2)) dX11_least_14 (by decide) ?_
    exact rhF.zret (pc := 16) dX11_least_16 rfl rfl rfl
theorem c_X11_least (E : rhE) (Γ : rhG) (M : rhM) (v0 : Nat) : ∀ a, f_X11_least Γ M v0 = some a → rhC E 11 yX11_least cX11_least 2 (some .int) [rhR v0] Γ M (rhe2I a) := rhF.met (by decide +kernel) (Nat.le_of_ble_eq_true rfl) (b_X11_least (Γ0 := Γ) Γ M v0)
def f_X11_lies (Γ : rhG) (M : rhM) (v0 : Nat) (v1 : Int32) : Option (Int32) :=
  if v1 < 0 then
    (some ((-1)))
  else
    rhck (Γ.2.2.1 v0 = 12) <|
    rhck (Γ.2.2.1 (M.2.2 v0 9) = 4) <|
    if v1 < (M.1 (M.2.2 v0 9) 1) then
      (rhck (Γ.2.2.1 (M.2.2 (M.2.2 v0 9) 0) = 15) <|
      rhck (0 ≤ (v1).toInt ∧ (v1).toInt < (Γ.2.2.2 (M.2.2 (M.2.2 v0 9) 0) : Nat)) <|
      some (M.1 (M.2.2 (M.2.2 v0 9) 0) v1.toNatClampNeg))
    else
      some ((-1))
set_option maxHeartbeats 4000000 in
set_option maxRecDepth 100000 in
theorem b_X11_lies {E : rhE} {Γ : rhG} {M : rhM} : ∀ (v0 : Nat) (v1 : Int32), rhF E 1 2 yX11_lies cX11_lies (some .int) Γ (rhe0I Γ M) (f_X11_lies Γ M v0 v1) 0 [(0, rhR v0), (1, rhI v1)] [] Γ M := by
  intro v0 v1
  rw [f_X11_lies]
  refine rhF.iload_n (pc := 0) dX11_lies_0 1 rfl ?_
  refine rhF.if_lt (pc := 1) 15 dX11_lies_1 (by decide) (fun h1 => ?_) (fun h1 => ?_)
  · refine rhF.iconst (pc := 15) (v := (-1)) dX11_lies_15 (by decide) ?_
    refine rhF.goto (pc := 16) 28 dX11_lies_16 (by decide) ?_
    exact rhF.zret (pc := 28) dX11_lies_28 rfl rfl rfl
  · refine rhF.iload_n (pc := 4) dX11_lies_4 1 rfl ?_
    refine rhF.aload_n (pc := 5) dX11_lies_5 0 rfl ?_
    refine rhF.ck (fun h2 => ?_)
    refine rhF.get (pc := 6) (rhR _) dX11_lies_6 fl_X11_52 h2 rfl ?_
    refine rhF.ck (fun h3 => ?_)
    refine rhF.get (pc := 9) (rhI _) dX11_lies_9 fl_X11_184 h3 rfl ?_
    refine rhF.icmp_lt (pc := 12) 19 dX11_lies_12 (by decide) (fun h4 => ?_) (fun h4 => ?_)
    · refine rhF.aload_n (pc := 19) dX11_lies_19 0 rfl ?_
      refine rhF.get (pc := 20) (rhR _) dX11_lies_20 fl_X11_52 h2 rfl ?_
      refine rhF.get (pc := 23) (rhR _) dX11_lies_23 fl_X11_192 h3 rfl ?_
      refine rhF.iload_n (pc := 26) dX11_lies_26 1 rfl ?_
      refine rhF.ck (fun h5 => ?_)
      refine rhF.ck (fun h6 => ?_)
      refine rhF.iald (pc := 27) dX11_lies_27 h5 h6 ?_
      exact rhF.zret (pc := 28) dX11_lies_28 rfl rfl rfl
    · refine rhF.iconst (pc := 15) (v := (-1)) dX11_lies_15 (by decide) ?_
      refine rhF.goto (pc := 16) 28 dX11_lies_16 (by decide) ?_
      exact rhF.zret (pc := 28) dX11_lies_28 rfl rfl rfl
theorem c_X11_lies (E : rhE) (Γ : rhG) (M : rhM) (v0 : Nat) (v1 : Int32) : ∀ a, f_X11_lies Γ M v0 v1 = some a → rhC E 1 yX11_lies cX11_lies 2 (some .int) [rhR v0, rhI v1] Γ M ((rhe0I Γ M) a) := rhF.met (by decide +kernel) (Nat.le_of_ble_eq_true rfl) (b_X11_lies v0 v1)
def f_X11_on (Γ : rhG) (M : rhM) (v0 : Nat) (v1 : Int32) (v2 : Int32) : Option (Int32) :=
  rhck (Γ.2.2.1 v0 = 12) <|
  (f_X11_isRail Γ M v0 v1).bind fun r2 =>
  if r2 = 0 then
    (some ((-1)))
  else
    if v2 < 0 then
      (some ((-1)))
    else
      rhck (Γ.2.2.1 (M.2.2 v0 5) = 8) <|
      (f_X7_count Γ M (M.2.2 v0 5) v1).bind fun r6 =>
      if v2 < r6 then
        ((f_X7_houseAt Γ M (M.2.2 v0 5) v1 v2).bind fun r8 =>
        some r8)
      else
        some ((-1))
set_option maxHeartbeats 4000000 in
set_option maxRecDepth 100000 in
theorem b_X11_on {E : rhE} {Γ : rhG} {M : rhM} : ∀ (v0 : Nat) (v1 : Int32) (v2 : Int32), rhF E 6 3 yX11_on cX11_on (some .int) Γ (rhe0I Γ M) (f_X11_on Γ M v0 v1 v2) 0 [(0, rhR v0), (1, rhI v1), (2, rhI v2)] [] Γ M := by
  intro v0 v1 v2
  rw [f_X11_on]
  refine rhF.aload_n (pc := 0) dX11_on_0 0 rfl ?_
  refine rhF.iload_n (pc := 1) dX11_on_1 1 rfl ?_
  refine rhF.ck (fun h1 => ?_)
  refine rhF.callV (pc := 2) (ci := 11) (embc := rhe0I _ _) [rhI _] dX11_on_2 ml_X11_113 mv_X11_isRail ⟨_, rfl, rfl⟩ h1 (c_X11_isRail _ _ _ _ _) (by decide) (by decide) rfl (Nat.le_of_ble_eq_true rfl) (fun r2 _ => ?_)
  refine rhF.if_eq (pc := 5) 24 dX11_on_5 (by decide) (fun h3 => ?_) (fun h3 => ?_)
  · refine rhF.iconst (pc := 24) (v := (-1)) dX11_on_24 (by decide) ?_
    exact rhF.zret (pc := 25) dX11_on_25 rfl rfl rfl
  · refine rhF.iload_n (pc := 8) dX11_on_8 2 rfl ?_
    refine rhF.if_lt (pc := 9) 24 dX11_on_9 (by decide) (fun h4 => ?_) (fun h4 => ?_)
    · refine rhF.iconst (pc := 24) (v := (-1)) dX11_on_24 (by decide) ?_
      exact rhF.zret (pc := 25) dX11_on_25 rfl rfl rfl
    · refine rhF.iload_n (pc := 12) dX11_on_12 2 rfl ?_
      refine rhF.aload_n (pc := 13) dX11_on_13 0 rfl ?_
      refine rhF.get (pc := 14) (rhR _) dX11_on_14 fl_X11_33 h1 rfl ?_
      refine rhF.iload_n (pc := 17) dX11_on_17 1 rfl ?_
      refine rhF.ck (fun h5 => ?_)
      refine rhF.callV (pc := 18) (ci := 7) (embc := rhe0I _ _) [rhI _] dX11_on_18 ml_X11_117 mv_X7_count ⟨_, rfl, rfl⟩ h5 (c_X7_count _ _ _ _ _) (by decide) (by decide) rfl (Nat.le_of_ble_eq_true rfl) (fun r6 _ => ?_)
      refine rhF.icmp_lt (pc := 21) 26 dX11_on_21 (by decide) (fun h7 => ?_) (fun h7 => ?_)
      · refine rhF.aload_n (pc := 26) dX11_on_26 0 rfl ?_
        refine rhF.get (pc := 27) (rhR _) dX11_on_27 fl_X11_33 h1 rfl ?_
        refine rhF.iload_n (pc := 30) dX11_on_30 1 rfl ?_
        refine rhF.iload_n (pc := 31) dX11_on_31 2 rfl ?_
        refine rhF.callV (pc := 32) (ci := 7) (embc := rhe0I _ _) [rhI _, rhI _] dX11_on_32 ml_X11_121 mv_X7_houseAt ⟨_, rfl, rfl⟩ h5 (c_X7_houseAt _ _ _ _ _ _) (by decide) (by decide) rfl (Nat.le_of_ble_eq_true rfl) (fun r8 _ => ?_)
        exact rhF.zret (pc := 35) dX11_on_35 rfl rfl rfl
      · refine rhF.iconst (pc := 24) (v := (-1)) dX11_on_24 (by decide) ?_
        exact rhF.zret (pc := 25) dX11_on_25 rfl rfl rfl
theorem c_X11_on (E : rhE) (Γ : rhG) (M : rhM) (v0 : Nat) (v1 : Int32) (v2 : Int32) : ∀ a, f_X11_on Γ M v0 v1 v2 = some a → rhC E 6 yX11_on cX11_on 3 (some .int) [rhR v0, rhI v1, rhI v2] Γ M ((rhe0I Γ M) a) := rhF.met (by decide +kernel) (Nat.le_of_ble_eq_true rfl) (b_X11_on v0 v1 v2)
def f_X11_open (Γ : rhG) (M : rhM) (v0 : Nat) : Option (Int32 × rhM) :=
  rhck (Γ.2.2.1 v0 = 12) <|
  let x2 := M.1 v0 11
  let M3 := rhsl M v0 10 ((0 : Int64))
  let M4 := rhsi M3 v0 11 0
  some ((x2, M4))
set_option maxHeartbeats 4000000 in
set_option maxRecDepth 100000 in
theorem b_X11_open {E : rhE} {Γ : rhG} : ∀ (M : rhM) (v0 : Nat), rhF E 1 2 yX11_open cX11_open (some .int) Γ (rhe1I Γ) (f_X11_open Γ M v0) 0 [(0, rhR v0)] [] Γ M := by
  intro M v0
  rw [f_X11_open]
  refine rhF.aload_n (pc := 0) dX11_open_0 0 rfl ?_
  refine rhF.ck (fun h1 => ?_)
  refine rhF.get (pc := 1) (rhI _) dX11_open_1 fl_X11_101 h1 rfl ?_
  refine rhF.istore_n (pc := 4) (L' := [(1, rhI _), (0, rhR _)]) dX11_open_4 (by decide) rfl ?_
  refine rhF.aload_n (pc := 5) dX11_open_5 1 rfl ?_
  refine rhF.lconst (pc := 6) (v := 0) dX11_open_6 (by decide) ?_
  refine rhF.putl (pc := 7) dX11_open_7 fl_X11_98 h1 (fun q hq => by cases hq; exact Or.inl rfl) ⟨rfl, rfl⟩ (fun _ => rfl) ?_
  refine rhF.aload_n (pc := 10) dX11_open_10 1 rfl ?_
  refine rhF.iconst (pc := 11) (v := 0) dX11_open_11 (by decide) ?_
  refine rhF.puti (pc := 12) dX11_open_12 fl_X11_101 h1 (fun q hq => by cases hq; exact Or.inl rfl) ⟨rfl, rfl⟩ (fun _ => rfl) ?_
  refine rhF.iload_n (pc := 15) dX11_open_15 0 rfl ?_
  exact rhF.zret (pc := 16) dX11_open_16 rfl rfl rfl
theorem c_X11_open (E : rhE) (Γ : rhG) (M : rhM) (v0 : Nat) : ∀ a, f_X11_open Γ M v0 = some a → rhC E 1 yX11_open cX11_open 2 (some .int) [rhR v0] Γ M ((rhe1I Γ) a) := rhF.met (by decide +kernel) (Nat.le_of_ble_eq_true rfl) (b_X11_open M v0)
def f_X11_pull (Γ : rhG) (M : rhM) (v0 : Nat) (v1 : Int32) (v2 : Int32) (v3 : Int32) : Option (Int32 × rhM) :=
  rhck (Γ.2.2.1 v0 = 12) <|
  (f_X11_isLawfulFrom Γ M v0 (M.2.2 v0 5) v1 v2 v3).bind fun r2 =>
  if r2.1 = 0 then
    (some (((-1), r2.2)))
  else
    rhck (Γ.2.2.1 (r2.2.2.2 v0 3) = 10) <|
    rhck (Γ.2.2.1 (r2.2.2.2 v0 5) = 8) <|
    (f_X7_last Γ r2.2 (r2.2.2.2 v0 5) v1 v2).bind fun r6 =>
    rhck (Γ.2.2.1 (r2.2.2.2 (r2.2.2.2 v0 3) 8) = 15) <|
    rhck (0 ≤ (r6).toInt ∧ (r6).toInt < (Γ.2.2.2 (r2.2.2.2 (r2.2.2.2 v0 3) 8) : Nat)) <|
    let x9 := r2.2.1 (r2.2.2.2 (r2.2.2.2 v0 3) 8) r6.toNatClampNeg
    (f_X3_code Γ r2.2 v1 v2 v3).bind fun r10 =>
    rhck (Γ.2.2.1 (r2.2.2.2 v0 7) = 4) <|
    (f_X3_add Γ r2.2 (r2.2.2.2 v0 7) r10).bind fun r12 =>
    if r12.1 = 0 then
      (some (((-1), r12.2)))
    else
      rhck (Γ.2.2.1 (r12.2.2.2 v0 7) = 4) <|
      let M15 := rhsi r12.2 (r12.2.2.2 v0 7) 2 ((r12.2.1 (r12.2.2.2 v0 7) 2) + x9)
      rhck (Γ.2.2.1 (r12.2.2.2 v0 5) = 8) <|
      (f_X7_after Γ M15 (r12.2.2.2 v0 5) v1 v2 v3).bind fun r17 =>
      (f_X7_look Γ M15 (r12.2.2.2 v0 5) (r12.2.2.2 v0 3) r17).bind fun r18 =>
      some ((x9, r18))
set_option maxHeartbeats 4000000 in
set_option maxRecDepth 100000 in
theorem b_X11_pull {E : rhE} {Γ : rhG} : ∀ (M : rhM) (v0 : Nat) (v1 : Int32) (v2 : Int32) (v3 : Int32), rhF E 8 5 yX11_pull cX11_pull (some .int) Γ (rhe1I Γ) (f_X11_pull Γ M v0 v1 v2 v3) 0 [(0, rhR v0), (1, rhI v1), (2, rhI v2), (3, rhI v3)] [] Γ M := by
  intro M v0 v1 v2 v3
  rw [f_X11_pull]
  refine rhF.aload_n (pc := 0) dX11_pull_0 0 rfl ?_
  refine rhF.aload_n (pc := 1) dX11_pull_1 0 rfl ?_
  refine rhF.ck (fun h1 => ?_)
  refine rhF.get (pc := 2) (rhR _) dX11_pull_2 fl_X11_33 h1 rfl ?_
  refine rhF.iload_n (pc := 5) dX11_pull_5 1 rfl ?_
  refine rhF.iload_n (pc := 6) dX11_pull_6 2 rfl ?_
  refine rhF.iload_n (pc := 7) dX11_pull_7 3 rfl ?_
  refine rhF.callV (pc := 8) (ci := 11) (embc := rhe1I _) [rhR _, rhI _, rhI _, rhI _] dX11_pull_8 ml_X11_164 mv_X11_isLawfulFrom ⟨_, rfl, rfl⟩ h1 (c_X11_isLawfulFrom _ _ _ _ _ _ _ _) (by decide) (by decide) rfl (Nat.le_of_ble_eq_true rfl) (fun r2 _ => ?_)
  refine rhF.if_ne (pc := 11) 16 dX11_pull_11 (by decide) (fun h3 => ?_) (fun h3 => ?_)
  · refine rhF.iconst (pc := 14) (v := (-1)) dX11_pull_14 (by decide) ?_
    exact rhF.zret (pc := 15) dX11_pull_15 rfl rfl rfl
  · refine rhF.aload_n (pc := 16) dX11_pull_16 0 rfl ?_
    refine rhF.get (pc := 17) (rhR _) dX11_pull_17 fl_X11_23 h1 rfl ?_
    refine rhF.ck (fun h4 => ?_)
    refine rhF.get (pc := 20) (rhR _) dX11_pull_20 fl_X11_167 h4 rfl ?_
    refine rhF.aload_n (pc := 23) dX11_pull_23 0 rfl ?_
    refine rhF.get (pc := 24) (rhR _) dX11_pull_24 fl_X11_33 h1 rfl ?_
    refine rhF.iload_n (pc := 27) dX11_pull_27 1 rfl ?_
    refine rhF.iload_n (pc := 28) dX11_pull_28 2 rfl ?_
    refine rhF.ck (fun h5 => ?_)
    refine rhF.callV (pc := 29) (ci := 7) (embc := rhe0I _ _) [rhI _, rhI _] dX11_pull_29 ml_X11_152 mv_X7_last ⟨_, rfl, rfl⟩ h5 (c_X7_last _ _ _ _ _ _) (by decide) (by decide) rfl (Nat.le_of_ble_eq_true rfl) (fun r6 _ => ?_)
    refine rhF.ck (fun h7 => ?_)
    refine rhF.ck (fun h8 => ?_)
    refine rhF.iald (pc := 32) dX11_pull_32 h7 h8 ?_
    refine rhF.istore (pc := 33) (L' := [(4, rhI _), (0, rhR _), (1, rhI _), (2, rhI _), (3, rhI _)]) dX11_pull_33 (by decide) rfl ?_
    refine rhF.aload_n (pc := 35) dX11_pull_35 1 rfl ?_
    refine rhF.get (pc := 36) (rhR _) dX11_pull_36 fl_X11_45 h1 rfl ?_
    refine rhF.iload_n (pc := 39) dX11_pull_39 2 rfl ?_
    refine rhF.iload_n (pc := 40) dX11_pull_40 3 rfl ?_
    refine rhF.iload_n (pc := 41) dX11_pull_41 4 rfl ?_
    refine rhF.callS (pc := 42) (embc := rhe0I _ _) [rhI _, rhI _, rhI _] dX11_pull_42 ml_X11_170 ms_X3_code (c_X3_code _ _ _ _ _ _) (by decide) (by decide) rfl (Nat.le_of_ble_eq_true rfl) (fun r10 _ => ?_)
    refine rhF.ck (fun h11 => ?_)
    refine rhF.callV (pc := 45) (ci := 3) (embc := rhe1I _) [rhI _] dX11_pull_45 ml_X11_174 mv_X3_add ⟨_, rfl, rfl⟩ h11 (c_X3_add _ _ _ _ _) (by decide) (by decide) rfl (Nat.le_of_ble_eq_true rfl) (fun r12 _ => ?_)
    refine rhF.if_ne (pc := 48) 53 dX11_pull_48 (by decide) (fun h13 => ?_) (fun h13 => ?_)
    · refine rhF.iconst (pc := 51) (v := (-1)) dX11_pull_51 (by decide) ?_
      exact rhF.zret (pc := 52) dX11_pull_52 rfl rfl rfl
    · refine rhF.aload_n (pc := 53) dX11_pull_53 1 rfl ?_
      refine rhF.get (pc := 54) (rhR _) dX11_pull_54 fl_X11_45 h1 rfl ?_
      refine rhF.dupr (pc := 57) dX11_pull_57 ?_
      refine rhF.ck (fun h14 => ?_)
      refine rhF.get (pc := 58) (rhI _) dX11_pull_58 fl_X11_177 h14 rfl ?_
      refine rhF.iload (pc := 61) dX11_pull_61 0 rfl ?_
      refine rhF.iadd (pc := 63) dX11_pull_63 ?_
      refine rhF.puti (pc := 64) dX11_pull_64 fl_X11_177 h14 (fun q hq => by cases hq; exact Or.inl rfl) ⟨rfl, rfl⟩ (fun _ => rfl) ?_
      refine rhF.aload_n (pc := 67) dX11_pull_67 1 rfl ?_
      refine rhF.get (pc := 68) (rhR _) dX11_pull_68 fl_X11_33 h1 rfl ?_
      refine rhF.aload_n (pc := 71) dX11_pull_71 1 rfl ?_
      refine rhF.get (pc := 72) (rhR _) dX11_pull_72 fl_X11_23 h1 rfl ?_
      refine rhF.aload_n (pc := 75) dX11_pull_75 1 rfl ?_
      refine rhF.get (pc := 76) (rhR _) dX11_pull_76 fl_X11_33 h1 rfl ?_
      refine rhF.iload_n (pc := 79) dX11_pull_79 2 rfl ?_
      refine rhF.iload_n (pc := 80) dX11_pull_80 3 rfl ?_
      refine rhF.iload_n (pc := 81) dX11_pull_81 4 rfl ?_
      refine rhF.ck (fun h16 => ?_)
      refine rhF.callV (pc := 82) (ci := 7) (embc := rhe0J _ _) [rhI _, rhI _, rhI _] dX11_pull_82 ml_X11_180 mv_X7_after ⟨_, rfl, rfl⟩ h16 (c_X7_after _ _ _ _ _ _ _) (by decide) (by decide) rfl (Nat.le_of_ble_eq_true rfl) (fun r17 _ => ?_)
      refine rhF.callV (pc := 85) (ci := 7) (embc := rhe1U _) [rhR _, rhJ _] dX11_pull_85 ml_X11_91 mv_X7_look ⟨_, rfl, rfl⟩ h16 (c_X7_look _ _ _ _ _ _) (by decide) (by decide) rfl (Nat.le_of_ble_eq_true rfl) (fun r18 _ => ?_)
      refine rhF.iload (pc := 88) dX11_pull_88 0 rfl ?_
      exact rhF.zret (pc := 90) dX11_pull_90 rfl rfl rfl
theorem c_X11_pull (E : rhE) (Γ : rhG) (M : rhM) (v0 : Nat) (v1 : Int32) (v2 : Int32) (v3 : Int32) : ∀ a, f_X11_pull Γ M v0 v1 v2 v3 = some a → rhC E 8 yX11_pull cX11_pull 5 (some .int) [rhR v0, rhI v1, rhI v2, rhI v3] Γ M ((rhe1I Γ) a) := rhF.met (by decide +kernel) (Nat.le_of_ble_eq_true rfl) (b_X11_pull M v0 v1 v2 v3)
def f_X11_richest (Γ : rhG) (M : rhM) (v0 : Nat) (v1 : Int32) : Option (Int32 × rhG × rhM) :=
  rhck (Γ.2.2.1 v0 = 12) <|
  rhck (Γ.2.2.1 (M.2.2 v0 9) = 4) <|
  (f_X3_clear Γ M (M.2.2 v0 9)).bind fun r3 =>
  if v1 < 0 then
    (some (((-1000000), Γ, r3)))
  else
    if 30 < v1 then
      (some (((-1000000), Γ, r3)))
    else
      (f_X11_isSpent Γ r3 v0).bind fun r6 =>
      if r6 = 0 then
        ((f_X11_readySearch Γ r3 v0).bind fun r8 =>
        rhck (r8.1.2.2.1 v0 = 12) <|
        rhck (r8.1.2.2.1 (r8.2.2.2 v0 15) = 6) <|
        (f_X5_seekWorth r8.1 r8.2 (r8.2.2.2 v0 15)).bind fun r11 =>
        rhck (r8.1.2.2.1 (r11.2.2 v0 5) = 8) <|
        rhck (r8.1.2.2.1 (r11.2.2 v0 15) = 6) <|
        (f_X5_spread r8.1 r11 (r11.2.2 v0 15) (r11.2.2 v0 3) (r11.2.1 (r11.2.2 v0 5) 0) v1).bind fun r14 =>
        (f_X11_lay r8.1 r14.2 v0 r14.1).bind fun r15 =>
        rhck (r15.2.1.2.2.1 v0 = 12) <|
        rhck (r15.2.1.2.2.1 (r15.2.2.2.2 v0 15) = 6) <|
        some ((r15.2.2.1 (r15.2.2.2.2 v0 15) 0, r15.2.1, r15.2.2)))
      else
        some (((-1000000), Γ, r3))
set_option maxHeartbeats 4000000 in
set_option maxRecDepth 100000 in
theorem b_X11_richest {E : rhE} {Γ0 : rhG} : ∀ (Γ : rhG) (M : rhM) (v0 : Nat) (v1 : Int32), rhF E 11 2 yX11_richest cX11_richest (some .int) Γ0 rhe2I (f_X11_richest Γ M v0 v1) 0 [(0, rhR v0), (1, rhI v1)] [] Γ M := by
  intro Γ M v0 v1
  rw [f_X11_richest]
  refine rhF.aload_n (pc := 0) dX11_richest_0 0 rfl ?_
  refine rhF.ck (fun h1 => ?_)
  refine rhF.get (pc := 1) (rhR _) dX11_richest_1 fl_X11_52 h1 rfl ?_
  refine rhF.ck (fun h2 => ?_)
  refine rhF.callV (pc := 4) (ci := 3) (embc := rhe1U _) [] dX11_richest_4 ml_X11_95 mv_X3_clear ⟨_, rfl, rfl⟩ h2 (c_X3_clear _ _ _ _) (by decide) (by decide) rfl (Nat.le_of_ble_eq_true rfl) (fun r3 _ => ?_)
  refine rhF.iload_n (pc := 7) dX11_richest_7 1 rfl ?_
  refine rhF.if_lt (pc := 8) 24 dX11_richest_8 (by decide) (fun h4 => ?_) (fun h4 => ?_)
  · refine rhF.ldc (pc := 24) dX11_richest_24 k_X11_159 ?_
    exact rhF.zret (pc := 26) dX11_richest_26 rfl rfl rfl
  · refine rhF.iload_n (pc := 11) dX11_richest_11 1 rfl ?_
    refine rhF.bipush (pc := 12) (v := 30) dX11_richest_12 (by decide) ?_
    refine rhF.icmp_gt (pc := 14) 24 dX11_richest_14 (by decide) (fun h5 => ?_) (fun h5 => ?_)
    · refine rhF.ldc (pc := 24) dX11_richest_24 k_X11_159 ?_
      exact rhF.zret (pc := 26) dX11_richest_26 rfl rfl rfl
    · refine rhF.aload_n (pc := 17) dX11_richest_17 0 rfl ?_
      refine rhF.callV (pc := 18) (ci := 11) (embc := rhe0I _ _) [] dX11_richest_18 ml_X11_221 mv_X11_isSpent ⟨_, rfl, rfl⟩ h1 (c_X11_isSpent _ _ _ _) (by decide) (by decide) rfl (Nat.le_of_ble_eq_true rfl) (fun r6 _ => ?_)
      refine rhF.if_eq (pc := 21) 27 dX11_richest_21 (by decide) (fun h7 => ?_) (fun h7 => ?_)
      · refine rhF.aload_n (pc := 27) dX11_richest_27 0 rfl ?_
        refine rhF.callV (pc := 28) (ci := 11) (embc := rhe2U) [] dX11_richest_28 ml_X11_225 mv_X11_readySearch ⟨_, rfl, rfl⟩ h1 (c_X11_readySearch _ _ _ _) (by decide) (by decide) rfl (Nat.le_of_ble_eq_true rfl) (fun r8 _ => ?_)
        refine rhF.aload_n (pc := 31) dX11_richest_31 0 rfl ?_
        refine rhF.ck (fun h9 => ?_)
        refine rhF.get (pc := 32) (rhR _) dX11_richest_32 fl_X11_228 h9 rfl ?_
        refine rhF.ck (fun h10 => ?_)
        refine rhF.callV (pc := 35) (ci := 5) (embc := rhe1U _) [] dX11_richest_35 ml_X11_253 mv_X5_seekWorth ⟨_, rfl, rfl⟩ h10 (c_X5_seekWorth _ _ _ _) (by decide) (by decide) rfl (Nat.le_of_ble_eq_true rfl) (fun r11 _ => ?_)
        refine rhF.aload_n (pc := 38) dX11_richest_38 0 rfl ?_
        refine rhF.aload_n (pc := 39) dX11_richest_39 0 rfl ?_
        refine rhF.get (pc := 40) (rhR _) dX11_richest_40 fl_X11_228 h9 rfl ?_
        refine rhF.aload_n (pc := 43) dX11_richest_43 0 rfl ?_
        refine rhF.get (pc := 44) (rhR _) dX11_richest_44 fl_X11_23 h9 rfl ?_
        refine rhF.aload_n (pc := 47) dX11_richest_47 0 rfl ?_
        refine rhF.get (pc := 48) (rhR _) dX11_richest_48 fl_X11_33 h9 rfl ?_
        refine rhF.ck (fun h12 => ?_)
        refine rhF.get (pc := 51) (rhJ _) dX11_richest_51 fl_X11_207 h12 rfl ?_
        refine rhF.iload_n (pc := 54) dX11_richest_54 1 rfl ?_
        refine rhF.ck (fun h13 => ?_)
        refine rhF.callV (pc := 55) (ci := 5) (embc := rhe1I _) [rhR _, rhJ _, rhI _] dX11_richest_55 ml_X11_239 mv_X5_spread ⟨_, rfl, rfl⟩ h13 (c_X5_spread _ _ _ _ _ _ _) (by decide) (by decide) rfl (Nat.le_of_ble_eq_true rfl) (fun r14 _ => ?_)
        refine rhF.callV (pc := 58) (ci := 11) (embc := rhe2I) [rhI _] dX11_richest_58 ml_X11_243 mv_X11_lay ⟨_, rfl, rfl⟩ h9 (c_X11_lay _ _ _ _ _) (by decide) (by decide) rfl (Nat.le_of_ble_eq_true rfl) (fun r15 _ => ?_)
        refine rhF.pop (pc := 61) dX11_richest_61 ?_
        refine rhF.aload_n (pc := 62) dX11_richest_62 0 rfl ?_
        refine rhF.ck (fun h16 => ?_)
        refine rhF.get (pc := 63) (rhR _) dX11_richest_63 fl_X11_228 h16 rfl ?_
        refine rhF.ck (fun h17 => ?_)
        refine rhF.get (pc := 66) (rhI _) dX11_richest_66 fl_X11_256 h17 rfl ?_
        exact rhF.zret (pc := 69) dX11_richest_69 rfl rfl rfl
      · refine rhF.ldc (pc := 24) dX11_richest_24 k_X11_159 ?_
        exact rhF.zret (pc := 26) dX11_richest_26 rfl rfl rfl
theorem c_X11_richest (E : rhE) (Γ : rhG) (M : rhM) (v0 : Nat) (v1 : Int32) : ∀ a, f_X11_richest Γ M v0 v1 = some a → rhC E 11 yX11_richest cX11_richest 2 (some .int) [rhR v0, rhI v1] Γ M (rhe2I a) := rhF.met (by decide +kernel) (Nat.le_of_ble_eq_true rfl) (b_X11_richest (Γ0 := Γ) Γ M v0 v1)
def f_X11_room (Γ : rhG) (M : rhM) (v0 : Nat) (v1 : Int32) : Option (Int32) :=
  rhck (Γ.2.2.1 v0 = 12) <|
  (f_X11_isRail Γ M v0 v1).bind fun r2 =>
  if r2 = 0 then
    (some ((-1)))
  else
    rhck (Γ.2.2.1 (M.2.2 v0 5) = 8) <|
    rhck (Γ.2.2.1 (M.2.2 (M.2.2 v0 5) 4) = 15) <|
    rhck (0 ≤ (v1).toInt ∧ (v1).toInt < (Γ.2.2.2 (M.2.2 (M.2.2 v0 5) 4) : Nat)) <|
    rhck (Γ.2.2.1 (M.2.2 v0 3) = 10) <|
    (f_X9_roomBeside Γ M (M.2.2 v0 3) v1 (M.1 (M.2.2 (M.2.2 v0 5) 4) v1.toNatClampNeg)).bind fun r8 =>
    some r8
set_option maxHeartbeats 4000000 in
set_option maxRecDepth 100000 in
theorem b_X11_room {E : rhE} {Γ : rhG} {M : rhM} : ∀ (v0 : Nat) (v1 : Int32), rhF E 5 2 yX11_room cX11_room (some .int) Γ (rhe0I Γ M) (f_X11_room Γ M v0 v1) 0 [(0, rhR v0), (1, rhI v1)] [] Γ M := by
  intro v0 v1
  rw [f_X11_room]
  refine rhF.aload_n (pc := 0) dX11_room_0 0 rfl ?_
  refine rhF.iload_n (pc := 1) dX11_room_1 1 rfl ?_
  refine rhF.ck (fun h1 => ?_)
  refine rhF.callV (pc := 2) (ci := 11) (embc := rhe0I _ _) [rhI _] dX11_room_2 ml_X11_113 mv_X11_isRail ⟨_, rfl, rfl⟩ h1 (c_X11_isRail _ _ _ _ _) (by decide) (by decide) rfl (Nat.le_of_ble_eq_true rfl) (fun r2 _ => ?_)
  refine rhF.if_eq (pc := 5) 28 dX11_room_5 (by decide) (fun h3 => ?_) (fun h3 => ?_)
  · refine rhF.iconst (pc := 28) (v := (-1)) dX11_room_28 (by decide) ?_
    exact rhF.zret (pc := 29) dX11_room_29 rfl rfl rfl
  · refine rhF.aload_n (pc := 8) dX11_room_8 0 rfl ?_
    refine rhF.get (pc := 9) (rhR _) dX11_room_9 fl_X11_23 h1 rfl ?_
    refine rhF.iload_n (pc := 12) dX11_room_12 1 rfl ?_
    refine rhF.aload_n (pc := 13) dX11_room_13 0 rfl ?_
    refine rhF.get (pc := 14) (rhR _) dX11_room_14 fl_X11_33 h1 rfl ?_
    refine rhF.ck (fun h4 => ?_)
    refine rhF.get (pc := 17) (rhR _) dX11_room_17 fl_X11_134 h4 rfl ?_
    refine rhF.iload_n (pc := 20) dX11_room_20 1 rfl ?_
    refine rhF.ck (fun h5 => ?_)
    refine rhF.ck (fun h6 => ?_)
    refine rhF.iald (pc := 21) dX11_room_21 h5 h6 ?_
    refine rhF.ck (fun h7 => ?_)
    refine rhF.callV (pc := 22) (ci := 9) (embc := rhe0I _ _) [rhI _, rhI _] dX11_room_22 ml_X11_138 mv_X9_roomBeside ⟨_, rfl, rfl⟩ h7 (c_X9_roomBeside _ _ _ _ _ _) (by decide) (by decide) rfl (Nat.le_of_ble_eq_true rfl) (fun r8 _ => ?_)
    refine rhF.goto (pc := 25) 29 dX11_room_25 (by decide) ?_
    exact rhF.zret (pc := 29) dX11_room_29 rfl rfl rfl
theorem c_X11_room (E : rhE) (Γ : rhG) (M : rhM) (v0 : Nat) (v1 : Int32) : ∀ a, f_X11_room Γ M v0 v1 = some a → rhC E 5 yX11_room cX11_room 2 (some .int) [rhR v0, rhI v1] Γ M ((rhe0I Γ M) a) := rhF.met (by decide +kernel) (Nat.le_of_ble_eq_true rfl) (b_X11_room v0 v1)
def f_X11_sight (Γ : rhG) (M : rhM) (v0 : Nat) (v1 : Int32) (v2 : Int32) (v3 : Int32) (v4 : Int32) : Option (Int32 × rhM) :=
  if v1 < 0 then
    (some (((-1), M)))
  else
    if 3 < v1 then
      (some (((-1), M)))
    else
      rhck (Γ.2.2.1 v0 = 12) <|
      (f_X11_isHouse Γ M v0 v2).bind fun r4 =>
      if r4 = 0 then
        (some (((-1), M)))
      else
        (f_X11_isRail Γ M v0 v3).bind fun r6 =>
        if r6 = 0 then
          (some (((-1), M)))
        else
          rhck (Γ.2.2.1 (M.2.2 v0 14) = 7) <|
          (f_X6_add Γ M (M.2.2 v0 14) v1 v2 v3 v4 (M.1 v0 16)).bind fun r9 =>
          some ((r9.1, r9.2))
set_option maxHeartbeats 4000000 in
set_option maxRecDepth 100000 in
theorem b_X11_sight {E : rhE} {Γ : rhG} : ∀ (M : rhM) (v0 : Nat) (v1 : Int32) (v2 : Int32) (v3 : Int32) (v4 : Int32), rhF E 5 5 yX11_sight cX11_sight (some .int) Γ (rhe1I Γ) (f_X11_sight Γ M v0 v1 v2 v3 v4) 0 [(0, rhR v0), (1, rhI v1), (2, rhI v2), (3, rhI v3), (4, rhI v4)] [] Γ M := by
  intro M v0 v1 v2 v3 v4
  rw [f_X11_sight]
  refine rhF.iload_n (pc := 0) dX11_sight_0 1 rfl ?_
  refine rhF.if_lt (pc := 1) 25 dX11_sight_1 (by decide) (fun h1 => ?_) (fun h1 => ?_)
  · refine rhF.iconst (pc := 25) (v := (-1)) dX11_sight_25 (by decide) ?_
    exact rhF.zret (pc := 26) dX11_sight_26 rfl rfl rfl
  · refine rhF.iload_n (pc := 4) dX11_sight_4 1 rfl ?_
    refine rhF.iconst (pc := 5) (v := 3) dX11_sight_5 (by decide) ?_
    refine rhF.icmp_gt (pc := 6) 25 dX11_sight_6 (by decide) (fun h2 => ?_) (fun h2 => ?_)
    · refine rhF.iconst (pc := 25) (v := (-1)) dX11_sight_25 (by decide) ?_
      exact rhF.zret (pc := 26) dX11_sight_26 rfl rfl rfl
    · refine rhF.aload_n (pc := 9) dX11_sight_9 0 rfl ?_
      refine rhF.iload_n (pc := 10) dX11_sight_10 2 rfl ?_
      refine rhF.ck (fun h3 => ?_)
      refine rhF.callV (pc := 11) (ci := 11) (embc := rhe0I _ _) [rhI _] dX11_sight_11 ml_X11_125 mv_X11_isHouse ⟨_, rfl, rfl⟩ h3 (c_X11_isHouse _ _ _ _ _) (by decide) (by decide) rfl (Nat.le_of_ble_eq_true rfl) (fun r4 _ => ?_)
      refine rhF.if_eq (pc := 14) 25 dX11_sight_14 (by decide) (fun h5 => ?_) (fun h5 => ?_)
      · refine rhF.iconst (pc := 25) (v := (-1)) dX11_sight_25 (by decide) ?_
        exact rhF.zret (pc := 26) dX11_sight_26 rfl rfl rfl
      · refine rhF.aload_n (pc := 17) dX11_sight_17 0 rfl ?_
        refine rhF.iload_n (pc := 18) dX11_sight_18 3 rfl ?_
        refine rhF.callV (pc := 19) (ci := 11) (embc := rhe0I _ _) [rhI _] dX11_sight_19 ml_X11_113 mv_X11_isRail ⟨_, rfl, rfl⟩ h3 (c_X11_isRail _ _ _ _ _) (by decide) (by decide) rfl (Nat.le_of_ble_eq_true rfl) (fun r6 _ => ?_)
        refine rhF.if_ne (pc := 22) 27 dX11_sight_22 (by decide) (fun h7 => ?_) (fun h7 => ?_)
        · refine rhF.iconst (pc := 25) (v := (-1)) dX11_sight_25 (by decide) ?_
          exact rhF.zret (pc := 26) dX11_sight_26 rfl rfl rfl
        · refine rhF.aload_n (pc := 27) dX11_sight_27 0 rfl ?_
          refine rhF.get (pc := 28) (rhR _) dX11_sight_28 fl_X11_66 h3 rfl ?_
          refine rhF.iload_n (pc := 31) dX11_sight_31 1 rfl ?_
          refine rhF.iload_n (pc := 32) dX11_sight_32 2 rfl ?_
          refine rhF.iload_n (pc := 33) dX11_sight_33 3 rfl ?_
          refine rhF.iload (pc := 34) dX11_sight_34 4 rfl ?_
          refine rhF.aload_n (pc := 36) dX11_sight_36 0 rfl ?_
          refine rhF.get (pc := 37) (rhI _) dX11_sight_37 fl_X11_280 h3 rfl ?_
          refine rhF.ck (fun h8 => ?_)
          refine rhF.callV (pc := 40) (ci := 6) (embc := rhe1I _) [rhI _, rhI _, rhI _, rhI _, rhI _] dX11_sight_40 ml_X11_283 mv_X6_add ⟨_, rfl, rfl⟩ h8 (c_X6_add _ _ _ _ _ _ _ _ _) (by decide) (by decide) rfl (Nat.le_of_ble_eq_true rfl) (fun r9 _ => ?_)
          exact rhF.zret (pc := 43) dX11_sight_43 rfl rfl rfl
theorem c_X11_sight (E : rhE) (Γ : rhG) (M : rhM) (v0 : Nat) (v1 : Int32) (v2 : Int32) (v3 : Int32) (v4 : Int32) : ∀ a, f_X11_sight Γ M v0 v1 v2 v3 v4 = some a → rhC E 5 yX11_sight cX11_sight 5 (some .int) [rhR v0, rhI v1, rhI v2, rhI v3, rhI v4] Γ M ((rhe1I Γ) a) := rhF.met (by decide +kernel) (Nat.le_of_ble_eq_true rfl) (b_X11_sight M v0 v1 v2 v3 v4)
def f_X11_spare_155 (k57 : rhG → rhM → Nat → Int32 → Int32 → Int32 → Int32 → Int32 → Option (Int32 × rhG × rhM)) (Γ : rhG) (M : rhM) (v0 : Nat) (v1 : Int32) (v2 : Int32) (v3 : Int32) (v4 : Int32) (v5 : Int32) : Option (Int32 × rhG × rhM) :=
  let x27 : Int32 := v5 + 1
  k57 Γ M v0 v1 v2 v3 v4 x27
def f_X11_spare_57 (k161 : rhG → rhM → Int32 → Int32 → Int32 → Option (Int32 × rhG × rhM)) : Nat → rhG → rhM → Nat → Int32 → Int32 → Int32 → Int32 → Int32 → Option (Int32 × rhG × rhM)
  | 0, _, _, _, _, _, _, _, _ => none
  | n + 1, Γ, M, v0, v1, v2, v3, v4, v5 =>
    rhck (Γ.2.2.1 v0 = 12) <|
    rhck (Γ.2.2.1 (M.2.2 v0 3) = 10) <|
    if v5 < (M.1 (M.2.2 v0 3) 0) then
      (rhck (Γ.2.2.1 (M.2.2 (M.2.2 v0 3) 6) = 15) <|
      rhck (0 ≤ (v5).toInt ∧ (v5).toInt < (Γ.2.2.2 (M.2.2 (M.2.2 v0 3) 6) : Nat)) <|
      let M17 := rhsi M (M.2.2 (M.2.2 v0 3) 6) (v5 : Int32).toNatClampNeg ((M.1 (M.2.2 (M.2.2 v0 3) 6) v5.toNatClampNeg) + v1)
      rhck (Γ.2.2.1 (M.2.2 v0 5) = 8) <|
      rhck (Γ.2.2.1 (M.2.2 v0 15) = 6) <|
      (f_X5_spread Γ M17 (M.2.2 v0 15) (M.2.2 v0 3) (M.2.1 (M.2.2 v0 5) 0) (v4 - 1)).bind fun r20 =>
      let x21 := r20.1
      rhck (Γ.2.2.1 (r20.2.2.2 v0 3) = 10) <|
      rhck (Γ.2.2.1 (r20.2.2.2 (r20.2.2.2 v0 3) 6) = 15) <|
      rhck (0 ≤ (v5).toInt ∧ (v5).toInt < (Γ.2.2.2 (r20.2.2.2 (r20.2.2.2 v0 3) 6) : Nat)) <|
      let M25 := rhsi r20.2 (r20.2.2.2 (r20.2.2.2 v0 3) 6) (v5 : Int32).toNatClampNeg ((r20.2.1 (r20.2.2.2 (r20.2.2.2 v0 3) 6) v5.toNatClampNeg) - v1)
      if x21 = ((-1)) then
        (f_X11_spare_155 (f_X11_spare_57 k161 n) Γ M25 v0 v1 v2 v3 v4 v5)
      else
        rhck (Γ.2.2.1 (r20.2.2.2 v0 15) = 6) <|
        (f_X5_pullsTo Γ M25 (r20.2.2.2 v0 15) x21).bind fun r29 =>
        if r29 < v4 then
          ((f_X5_pullsTo Γ M25 (r20.2.2.2 v0 15) x21).bind fun r31 =>
          f_X11_spare_155 (f_X11_spare_57 k161 n) Γ M25 v0 v1 v2 v5 r31 v5)
        else
          f_X11_spare_155 (f_X11_spare_57 k161 n) Γ M25 v0 v1 v2 v3 v4 v5)
    else
      k161 Γ M v2 v3 v4
def f_X11_spare_161 (Γ : rhG) (M : rhM) (v2 : Int32) (v3 : Int32) (v4 : Int32) : Option (Int32 × rhG × rhM) :=
  if v3 = ((-1)) then
    (some (((-1), Γ, M)))
  else
    if v2 = 0 then
      (some ((v3, Γ, M)))
    else
      some ((v4, Γ, M))
def f_X11_spare (Γ : rhG) (M : rhM) (v0 : Nat) (v1 : Int32) (v2 : Int32) : Option (Int32 × rhG × rhM) :=
  if v1 < 1 then
    (some (((-1), Γ, M)))
  else
    if 99 < v1 then
      (some (((-1), Γ, M)))
    else
      if v2 < 0 then
        (some (((-1), Γ, M)))
      else
        if 1 < v2 then
          (some (((-1), Γ, M)))
        else
          rhck (Γ.2.2.1 v0 = 12) <|
          (f_X11_isSpent Γ M v0).bind fun r6 =>
          if r6 = 0 then
            ((f_X11_readySearch Γ M v0).bind fun r8 =>
            rhck (r8.1.2.2.1 v0 = 12) <|
            rhck (r8.1.2.2.1 (r8.2.2.2 v0 15) = 6) <|
            (f_X5_seekRow r8.1 r8.2 (r8.2.2.2 v0 15) (r8.2.2.1 v0 10) (r8.2.1 v0 11)).bind fun r11 =>
            f_X11_spare_57 (f_X11_spare_161) rhFU r8.1 r11 v0 v1 v2 ((-1)) 1000000 0)
          else
            some (((-1), Γ, M))
set_option maxHeartbeats 4000000 in
set_option maxRecDepth 100000 in
theorem b_X11_spare_155 {E : rhE} {Γ0 : rhG} {k57 : rhG → rhM → Nat → Int32 → Int32 → Int32 → Int32 → Int32 → Option (Int32 × rhG × rhM)} (hk57 : ∀ (Γ : rhG) (M : rhM) (v0 : Nat) (v1 : Int32) (v2 : Int32) (v3 : Int32) (v4 : Int32) (v5 : Int32), rhF E 11 7 yX11_spare cX11_spare (some .int) Γ0 rhe2I (k57 Γ M v0 v1 v2 v3 v4 v5) 57 [(0, rhR v0), (1, rhI v1), (2, rhI v2), (3, rhI v3), (4, rhI v4), (5, rhI v5)] [] Γ M) : ∀ (Γ : rhG) (M : rhM) (v0 : Nat) (v1 : Int32) (v2 : Int32) (v3 : Int32) (v4 : Int32) (v5 : Int32), rhF E 11 7 yX11_spare cX11_spare (some .int) Γ0 rhe2I (f_X11_spare_155 k57 Γ M v0 v1 v2 v3 v4 v5) 155 [(0, rhR v0), (1, rhI v1), (2, rhI v2), (3, rhI v3), (4, rhI v4), (5, rhI v5)] [] Γ M := by
  intro Γ M v0 v1 v2 v3 v4 v5
  rw [f_X11_spare_155]
  refine rhF.iinc (pc := 155) (L' := [(5, rhI _), (0, rhR _), (1, rhI _), (2, rhI _), (3, rhI _), (4, rhI _)]) dX11_spare_155 5 rfl rfl (by decide) rfl ?_
  refine rhF.goto (pc := 158) 57 dX11_spare_158 (by decide) ?_
  refine rhF.sub [1, 2, 3, 4, 5, 0] rfl ?_
  exact hk57 _ _ _ _ _ _ _ _
set_option maxHeartbeats 4000000 in
set_option maxRecDepth 100000 in
theorem b_X11_spare_57 {E : rhE} {Γ0 : rhG} {k161 : rhG → rhM → Int32 → Int32 → Int32 → Option (Int32 × rhG × rhM)} (hk161 : ∀ (Γ : rhG) (M : rhM) (v2 : Int32) (v3 : Int32) (v4 : Int32), rhF E 11 7 yX11_spare cX11_spare (some .int) Γ0 rhe2I (k161 Γ M v2 v3 v4) 161 [(2, rhI v2), (3, rhI v3), (4, rhI v4)] [] Γ M) : ∀ (n : Nat) (Γ : rhG) (M : rhM) (v0 : Nat) (v1 : Int32) (v2 : Int32) (v3 : Int32) (v4 : Int32) (v5 : Int32), rhF E 11 7 yX11_spare cX11_spare (some .int) Γ0 rhe2I (f_X11_spare_57 k161 n Γ M v0 v1 v2 v3 v4 v5) 57 [(0, rhR v0), (1, rhI v1), (2, rhI v2), (3, rhI v3), (4, rhI v4), (5, rhI v5)] [] Γ M := by
  intro n
  induction n with
  | zero => intro Γ M v0 v1 v2 v3 v4 v5; rw [f_X11_spare_57]; exact rhF.nope
  | succ n ih =>
    intro Γ M v0 v1 v2 v3 v4 v5
    rw [f_X11_spare_57]
    refine rhF.iload (pc := 57) dX11_spare_57 5 rfl ?_
    refine rhF.aload_n (pc := 59) dX11_spare_59 0 rfl ?_
    refine rhF.ck (fun h12 => ?_)
    refine rhF.get (pc := 60) (rhR _) dX11_spare_60 fl_X11_23 h12 rfl ?_
    refine rhF.ck (fun h13 => ?_)
    refine rhF.get (pc := 63) (rhI _) dX11_spare_63 fl_X11_141 h13 rfl ?_
    refine rhF.icmp_ge (pc := 66) 161 dX11_spare_66 (by decide) (fun h14 => ?_) (fun h14 => ?_)
    · refine rhF.aload_n (pc := 69) dX11_spare_69 0 rfl ?_
      refine rhF.get (pc := 70) (rhR _) dX11_spare_70 fl_X11_23 h12 rfl ?_
      refine rhF.get (pc := 73) (rhR _) dX11_spare_73 fl_X11_262 h13 rfl ?_
      refine rhF.iload (pc := 76) dX11_spare_76 5 rfl ?_
      refine rhF.dup2ri (pc := 78) dX11_spare_78 ?_
      refine rhF.ck (fun h15 => ?_)
      refine rhF.ck (fun h16 => ?_)
      refine rhF.iald (pc := 79) dX11_spare_79 h15 h16 ?_
      refine rhF.iload_n (pc := 80) dX11_spare_80 1 rfl ?_
      refine rhF.iadd (pc := 81) dX11_spare_81 ?_
      refine rhF.iast (pc := 82) dX11_spare_82 h15 h16 ?_
      refine rhF.aload_n (pc := 83) dX11_spare_83 0 rfl ?_
      refine rhF.get (pc := 84) (rhR _) dX11_spare_84 fl_X11_228 h12 rfl ?_
      refine rhF.aload_n (pc := 87) dX11_spare_87 0 rfl ?_
      refine rhF.get (pc := 88) (rhR _) dX11_spare_88 fl_X11_23 h12 rfl ?_
      refine rhF.aload_n (pc := 91) dX11_spare_91 0 rfl ?_
      refine rhF.get (pc := 92) (rhR _) dX11_spare_92 fl_X11_33 h12 rfl ?_
      refine rhF.ck (fun h18 => ?_)
      refine rhF.get (pc := 95) (rhJ _) dX11_spare_95 fl_X11_207 h18 rfl ?_
      refine rhF.iload (pc := 98) dX11_spare_98 4 rfl ?_
      refine rhF.iconst (pc := 100) (v := 1) dX11_spare_100 (by decide) ?_
      refine rhF.isub (pc := 101) dX11_spare_101 ?_
      refine rhF.ck (fun h19 => ?_)
      refine rhF.callV (pc := 102) (ci := 5) (embc := rhe1I _) [rhR _, rhJ _, rhI _] dX11_spare_102 ml_X11_239 mv_X5_spread ⟨_, rfl, rfl⟩ h19 (c_X5_spread _ _ _ _ _ _ _) (by decide) (by decide) rfl (Nat.le_of_ble_eq_true rfl) (fun r20 _ => ?_)
      refine rhF.istore (pc := 105) (L' := [(6, rhI _), (0, rhR _), (1, rhI _), (2, rhI _), (3, rhI _), (4, rhI _), (5, rhI _)]) dX11_spare_105 (by decide) rfl ?_
      refine rhF.aload_n (pc := 107) dX11_spare_107 1 rfl ?_
      refine rhF.get (pc := 108) (rhR _) dX11_spare_108 fl_X11_23 h12 rfl ?_
      refine rhF.ck (fun h22 => ?_)
      refine rhF.get (pc := 111) (rhR _) dX11_spare_111 fl_X11_262 h22 rfl ?_
      refine rhF.iload (pc := 114) dX11_spare_114 6 rfl ?_
      refine rhF.dup2ri (pc := 116) dX11_spare_116 ?_
      refine rhF.ck (fun h23 => ?_)
      refine rhF.ck (fun h24 => ?_)
      refine rhF.iald (pc := 117) dX11_spare_117 h23 h24 ?_
      refine rhF.iload_n (pc := 118) dX11_spare_118 2 rfl ?_
      refine rhF.isub (pc := 119) dX11_spare_119 ?_
      refine rhF.iast (pc := 120) dX11_spare_120 h23 h24 ?_
      refine rhF.iload (pc := 121) dX11_spare_121 0 rfl ?_
      refine rhF.iconst (pc := 123) (v := (-1)) dX11_spare_123 (by decide) ?_
      refine rhF.icmp_eq (pc := 124) 155 dX11_spare_124 (by decide) (fun h26 => ?_) (fun h26 => ?_)
      · refine rhF.sub [1, 2, 3, 4, 5, 6] rfl ?_
        exact (b_X11_spare_155 ih) _ _ _ _ _ _ _ _
      · refine rhF.aload_n (pc := 127) dX11_spare_127 1 rfl ?_
        refine rhF.get (pc := 128) (rhR _) dX11_spare_128 fl_X11_228 h12 rfl ?_
        refine rhF.iload (pc := 131) dX11_spare_131 0 rfl ?_
        refine rhF.ck (fun h28 => ?_)
        refine rhF.callV (pc := 133) (ci := 5) (embc := rhe0I _ _) [rhI _] dX11_spare_133 ml_X11_265 mv_X5_pullsTo ⟨_, rfl, rfl⟩ h28 (c_X5_pullsTo _ _ _ _ _) (by decide) (by decide) rfl (Nat.le_of_ble_eq_true rfl) (fun r29 _ => ?_)
        refine rhF.iload (pc := 136) dX11_spare_136 5 rfl ?_
        refine rhF.icmp_ge (pc := 138) 155 dX11_spare_138 (by decide) (fun h30 => ?_) (fun h30 => ?_)
        · refine rhF.iload (pc := 141) dX11_spare_141 6 rfl ?_
          refine rhF.istore_n (pc := 143) (L' := [(3, rhI _), (6, rhI _), (0, rhR _), (1, rhI _), (2, rhI _), (4, rhI _), (5, rhI _)]) dX11_spare_143 (by decide) rfl ?_
          refine rhF.aload_n (pc := 144) dX11_spare_144 2 rfl ?_
          refine rhF.get (pc := 145) (rhR _) dX11_spare_145 fl_X11_228 h12 rfl ?_
          refine rhF.iload (pc := 148) dX11_spare_148 1 rfl ?_
          refine rhF.callV (pc := 150) (ci := 5) (embc := rhe0I _ _) [rhI _] dX11_spare_150 ml_X11_265 mv_X5_pullsTo ⟨_, rfl, rfl⟩ h28 (c_X5_pullsTo _ _ _ _ _) (by decide) (by decide) rfl (Nat.le_of_ble_eq_true rfl) (fun r31 _ => ?_)
          refine rhF.istore (pc := 153) (L' := [(4, rhI _), (3, rhI _), (6, rhI _), (0, rhR _), (1, rhI _), (2, rhI _), (5, rhI _)]) dX11_spare_153 (by decide) rfl ?_
          refine rhF.sub [3, 4, 5, 1, 0, 6] rfl ?_
          exact (b_X11_spare_155 ih) _ _ _ _ _ _ _ _
        · refine rhF.sub [1, 2, 3, 4, 5, 6] rfl ?_
          exact (b_X11_spare_155 ih) _ _ _ _ _ _ _ _
    · refine rhF.sub [2, 3, 4] rfl ?_
      exact hk161 _ _ _ _ _
set_option maxHeartbeats 4000000 in
set_option maxRecDepth 100000 in
theorem b_X11_spare_161 {E : rhE} {Γ0 : rhG} : ∀ (Γ : rhG) (M : rhM) (v2 : Int32) (v3 : Int32) (v4 : Int32), rhF E 11 7 yX11_spare cX11_spare (some .int) Γ0 rhe2I (f_X11_spare_161 Γ M v2 v3 v4) 161 [(2, rhI v2), (3, rhI v3), (4, rhI v4)] [] Γ M := by
  intro Γ M v2 v3 v4
  rw [f_X11_spare_161]
  refine rhF.iload_n (pc := 161) dX11_spare_161 1 rfl ?_
  refine rhF.iconst (pc := 162) (v := (-1)) dX11_spare_162 (by decide) ?_
  refine rhF.icmp_ne (pc := 163) 168 dX11_spare_163 (by decide) (fun h32 => ?_) (fun h32 => ?_)
  · refine rhF.iconst (pc := 166) (v := (-1)) dX11_spare_166 (by decide) ?_
    exact rhF.zret (pc := 167) dX11_spare_167 rfl rfl rfl
  · refine rhF.iload_n (pc := 168) dX11_spare_168 0 rfl ?_
    refine rhF.if_ne (pc := 169) 176 dX11_spare_169 (by decide) (fun h33 => ?_) (fun h33 => ?_)
    · refine rhF.iload_n (pc := 172) dX11_spare_172 1 rfl ?_
      refine rhF.goto (pc := 173) 178 dX11_spare_173 (by decide) ?_
      exact rhF.zret (pc := 178) dX11_spare_178 rfl rfl rfl
    · refine rhF.iload (pc := 176) dX11_spare_176 2 rfl ?_
      exact rhF.zret (pc := 178) dX11_spare_178 rfl rfl rfl
set_option maxHeartbeats 4000000 in
set_option maxRecDepth 100000 in
theorem b_X11_spare {E : rhE} {Γ0 : rhG} : ∀ (Γ : rhG) (M : rhM) (v0 : Nat) (v1 : Int32) (v2 : Int32), rhF E 11 7 yX11_spare cX11_spare (some .int) Γ0 rhe2I (f_X11_spare Γ M v0 v1 v2) 0 [(0, rhR v0), (1, rhI v1), (2, rhI v2)] [] Γ M := by
  intro Γ M v0 v1 v2
  rw [f_X11_spare]
  refine rhF.iload_n (pc := 0) dX11_spare_0 1 rfl ?_
  refine rhF.iconst (pc := 1) (v := 1) dX11_spare_1 (by decide) ?_
  refine rhF.icmp_lt (pc := 2) 27 dX11_spare_2 (by decide) (fun h1 => ?_) (fun h1 => ?_)
  · refine rhF.iconst (pc := 27) (v := (-1)) dX11_spare_27 (by decide) ?_
    exact rhF.zret (pc := 28) dX11_spare_28 rfl rfl rfl
  · refine rhF.iload_n (pc := 5) dX11_spare_5 1 rfl ?_
    refine rhF.bipush (pc := 6) (v := 99) dX11_spare_6 (by decide) ?_
    refine rhF.icmp_gt (pc := 8) 27 dX11_spare_8 (by decide) (fun h2 => ?_) (fun h2 => ?_)
    · refine rhF.iconst (pc := 27) (v := (-1)) dX11_spare_27 (by decide) ?_
      exact rhF.zret (pc := 28) dX11_spare_28 rfl rfl rfl
    · refine rhF.iload_n (pc := 11) dX11_spare_11 2 rfl ?_
      refine rhF.if_lt (pc := 12) 27 dX11_spare_12 (by decide) (fun h3 => ?_) (fun h3 => ?_)
      · refine rhF.iconst (pc := 27) (v := (-1)) dX11_spare_27 (by decide) ?_
        exact rhF.zret (pc := 28) dX11_spare_28 rfl rfl rfl
      · refine rhF.iload_n (pc := 15) dX11_spare_15 2 rfl ?_
        refine rhF.iconst (pc := 16) (v := 1) dX11_spare_16 (by decide) ?_
        refine rhF.icmp_gt (pc := 17) 27 dX11_spare_17 (by decide) (fun h4 => ?_) (fun h4 => ?_)
        · refine rhF.iconst (pc := 27) (v := (-1)) dX11_spare_27 (by decide) ?_
          exact rhF.zret (pc := 28) dX11_spare_28 rfl rfl rfl
        · refine rhF.aload_n (pc := 20) dX11_spare_20 0 rfl ?_
          refine rhF.ck (fun h5 => ?_)
          refine rhF.callV (pc := 21) (ci := 11) (embc := rhe0I _ _) [] dX11_spare_21 ml_X11_221 mv_X11_isSpent ⟨_, rfl, rfl⟩ h5 (c_X11_isSpent _ _ _ _) (by decide) (by decide) rfl (Nat.le_of_ble_eq_true rfl) (fun r6 _ => ?_)
          refine rhF.if_eq (pc := 24) 29 dX11_spare_24 (by decide) (fun h7 => ?_) (fun h7 => ?_)
          · refine rhF.aload_n (pc := 29) dX11_spare_29 0 rfl ?_
            refine rhF.callV (pc := 30) (ci := 11) (embc := rhe2U) [] dX11_spare_30 ml_X11_225 mv_X11_readySearch ⟨_, rfl, rfl⟩ h5 (c_X11_readySearch _ _ _ _) (by decide) (by decide) rfl (Nat.le_of_ble_eq_true rfl) (fun r8 _ => ?_)
            refine rhF.aload_n (pc := 33) dX11_spare_33 0 rfl ?_
            refine rhF.ck (fun h9 => ?_)
            refine rhF.get (pc := 34) (rhR _) dX11_spare_34 fl_X11_228 h9 rfl ?_
            refine rhF.aload_n (pc := 37) dX11_spare_37 0 rfl ?_
            refine rhF.get (pc := 38) (rhJ _) dX11_spare_38 fl_X11_98 h9 rfl ?_
            refine rhF.aload_n (pc := 41) dX11_spare_41 0 rfl ?_
            refine rhF.get (pc := 42) (rhI _) dX11_spare_42 fl_X11_101 h9 rfl ?_
            refine rhF.ck (fun h10 => ?_)
            refine rhF.callV (pc := 45) (ci := 5) (embc := rhe1U _) [rhJ _, rhI _] dX11_spare_45 ml_X11_232 mv_X5_seekRow ⟨_, rfl, rfl⟩ h10 (c_X5_seekRow _ _ _ _ _ _) (by decide) (by decide) rfl (Nat.le_of_ble_eq_true rfl) (fun r11 _ => ?_)
            refine rhF.iconst (pc := 48) (v := (-1)) dX11_spare_48 (by decide) ?_
            refine rhF.istore_n (pc := 49) (L' := [(3, rhI _), (0, rhR _), (1, rhI _), (2, rhI _)]) dX11_spare_49 (by decide) rfl ?_
            refine rhF.ldc (pc := 50) dX11_spare_50 k_X11_238 ?_
            refine rhF.istore (pc := 52) (L' := [(4, rhI _), (3, rhI _), (0, rhR _), (1, rhI _), (2, rhI _)]) dX11_spare_52 (by decide) rfl ?_
            refine rhF.iconst (pc := 54) (v := 0) dX11_spare_54 (by decide) ?_
            refine rhF.istore (pc := 55) (L' := [(5, rhI _), (4, rhI _), (3, rhI _), (0, rhR _), (1, rhI _), (2, rhI _)]) dX11_spare_55 (by decide) rfl ?_
            refine rhF.sub [3, 4, 5, 2, 1, 0] rfl ?_
            exact (b_X11_spare_57 (b_X11_spare_161) rhFU) _ _ _ _ _ _ _ _
          · refine rhF.iconst (pc := 27) (v := (-1)) dX11_spare_27 (by decide) ?_
            exact rhF.zret (pc := 28) dX11_spare_28 rfl rfl rfl
theorem c_X11_spare (E : rhE) (Γ : rhG) (M : rhM) (v0 : Nat) (v1 : Int32) (v2 : Int32) : ∀ a, f_X11_spare Γ M v0 v1 v2 = some a → rhC E 11 yX11_spare cX11_spare 7 (some .int) [rhR v0, rhI v1, rhI v2] Γ M (rhe2I a) := rhF.met (by decide +kernel) (Nat.le_of_ble_eq_true rfl) (b_X11_spare (Γ0 := Γ) Γ M v0 v1 v2)
def f_X11_takeBack (Γ : rhG) (M : rhM) (v0 : Nat) (v1 : Int32) : Option (rhM) :=
  (f_X3_fromOf Γ M v1).bind fun r1 =>
  (f_X3_manyOf Γ M v1).bind fun r2 =>
  (f_X3_toOf Γ M v1).bind fun r3 =>
  rhck (Γ.2.2.1 v0 = 12) <|
  (f_X11_canBeFrom Γ M v0 (M.2.2 v0 5) r3 r2 r1).bind fun r5 =>
  if r5 = 0 then
    (some M)
  else
    rhck (Γ.2.2.1 (M.2.2 v0 7) = 4) <|
    rhck (Γ.2.2.1 (M.2.2 v0 3) = 10) <|
    rhck (Γ.2.2.1 (M.2.2 v0 5) = 8) <|
    (f_X7_last Γ M (M.2.2 v0 5) r3 r2).bind fun r10 =>
    rhck (Γ.2.2.1 (M.2.2 (M.2.2 v0 3) 8) = 15) <|
    rhck (0 ≤ (r10).toInt ∧ (r10).toInt < (Γ.2.2.2 (M.2.2 (M.2.2 v0 3) 8) : Nat)) <|
    let M13 := rhsi M (M.2.2 v0 7) 2 ((M.1 (M.2.2 v0 7) 2) - (M.1 (M.2.2 (M.2.2 v0 3) 8) r10.toNatClampNeg))
    (f_X7_after Γ M13 (M.2.2 v0 5) r3 r2 r1).bind fun r14 =>
    (f_X7_look Γ M13 (M.2.2 v0 5) (M.2.2 v0 3) r14).bind fun r15 =>
    some r15
set_option maxHeartbeats 4000000 in
set_option maxRecDepth 100000 in
theorem b_X11_takeBack {E : rhE} {Γ : rhG} : ∀ (M : rhM) (v0 : Nat) (v1 : Int32), rhF E 7 5 yX11_takeBack cX11_takeBack none Γ (rhe1U Γ) (f_X11_takeBack Γ M v0 v1) 0 [(0, rhR v0), (1, rhI v1)] [] Γ M := by
  intro M v0 v1
  rw [f_X11_takeBack]
  refine rhF.iload_n (pc := 0) dX11_takeBack_0 1 rfl ?_
  refine rhF.callS (pc := 1) (embc := rhe0I _ _) [rhI _] dX11_takeBack_1 ml_X11_198 ms_X3_fromOf (c_X3_fromOf _ _ _ _) (by decide) (by decide) rfl (Nat.le_of_ble_eq_true rfl) (fun r1 _ => ?_)
  refine rhF.istore_n (pc := 4) (L' := [(2, rhI _), (0, rhR _), (1, rhI _)]) dX11_takeBack_4 (by decide) rfl ?_
  refine rhF.iload_n (pc := 5) dX11_takeBack_5 2 rfl ?_
  refine rhF.callS (pc := 6) (embc := rhe0I _ _) [rhI _] dX11_takeBack_6 ml_X11_201 ms_X3_manyOf (c_X3_manyOf _ _ _ _) (by decide) (by decide) rfl (Nat.le_of_ble_eq_true rfl) (fun r2 _ => ?_)
  refine rhF.istore_n (pc := 9) (L' := [(3, rhI _), (2, rhI _), (0, rhR _), (1, rhI _)]) dX11_takeBack_9 (by decide) rfl ?_
  refine rhF.iload_n (pc := 10) dX11_takeBack_10 3 rfl ?_
  refine rhF.callS (pc := 11) (embc := rhe0I _ _) [rhI _] dX11_takeBack_11 ml_X11_204 ms_X3_toOf (c_X3_toOf _ _ _ _) (by decide) (by decide) rfl (Nat.le_of_ble_eq_true rfl) (fun r3 _ => ?_)
  refine rhF.istore (pc := 14) (L' := [(4, rhI _), (3, rhI _), (2, rhI _), (0, rhR _), (1, rhI _)]) dX11_takeBack_14 (by decide) rfl ?_
  refine rhF.aload_n (pc := 16) dX11_takeBack_16 3 rfl ?_
  refine rhF.aload_n (pc := 17) dX11_takeBack_17 3 rfl ?_
  refine rhF.ck (fun h4 => ?_)
  refine rhF.get (pc := 18) (rhR _) dX11_takeBack_18 fl_X11_33 h4 rfl ?_
  refine rhF.iload (pc := 21) dX11_takeBack_21 0 rfl ?_
  refine rhF.iload_n (pc := 23) dX11_takeBack_23 1 rfl ?_
  refine rhF.iload_n (pc := 24) dX11_takeBack_24 2 rfl ?_
  refine rhF.callV (pc := 25) (ci := 11) (embc := rhe0I _ _) [rhR _, rhI _, rhI _, rhI _] dX11_takeBack_25 ml_X11_148 mv_X11_canBeFrom ⟨_, rfl, rfl⟩ h4 (c_X11_canBeFrom _ _ _ _ _ _ _ _) (by decide) (by decide) rfl (Nat.le_of_ble_eq_true rfl) (fun r5 _ => ?_)
  refine rhF.if_eq (pc := 28) 83 dX11_takeBack_28 (by decide) (fun h6 => ?_) (fun h6 => ?_)
  · exact rhF.vret (pc := 83) dX11_takeBack_83 rfl rfl
  · refine rhF.aload_n (pc := 31) dX11_takeBack_31 3 rfl ?_
    refine rhF.get (pc := 32) (rhR _) dX11_takeBack_32 fl_X11_45 h4 rfl ?_
    refine rhF.dupr (pc := 35) dX11_takeBack_35 ?_
    refine rhF.ck (fun h7 => ?_)
    refine rhF.get (pc := 36) (rhI _) dX11_takeBack_36 fl_X11_177 h7 rfl ?_
    refine rhF.aload_n (pc := 39) dX11_takeBack_39 3 rfl ?_
    refine rhF.get (pc := 40) (rhR _) dX11_takeBack_40 fl_X11_23 h4 rfl ?_
    refine rhF.ck (fun h8 => ?_)
    refine rhF.get (pc := 43) (rhR _) dX11_takeBack_43 fl_X11_167 h8 rfl ?_
    refine rhF.aload_n (pc := 46) dX11_takeBack_46 3 rfl ?_
    refine rhF.get (pc := 47) (rhR _) dX11_takeBack_47 fl_X11_33 h4 rfl ?_
    refine rhF.iload (pc := 50) dX11_takeBack_50 0 rfl ?_
    refine rhF.iload_n (pc := 52) dX11_takeBack_52 1 rfl ?_
    refine rhF.ck (fun h9 => ?_)
    refine rhF.callV (pc := 53) (ci := 7) (embc := rhe0I _ _) [rhI _, rhI _] dX11_takeBack_53 ml_X11_152 mv_X7_last ⟨_, rfl, rfl⟩ h9 (c_X7_last _ _ _ _ _ _) (by decide) (by decide) rfl (Nat.le_of_ble_eq_true rfl) (fun r10 _ => ?_)
    refine rhF.ck (fun h11 => ?_)
    refine rhF.ck (fun h12 => ?_)
    refine rhF.iald (pc := 56) dX11_takeBack_56 h11 h12 ?_
    refine rhF.isub (pc := 57) dX11_takeBack_57 ?_
    refine rhF.puti (pc := 58) dX11_takeBack_58 fl_X11_177 h7 (fun q hq => by cases hq; exact Or.inl rfl) ⟨rfl, rfl⟩ (fun _ => rfl) ?_
    refine rhF.aload_n (pc := 61) dX11_takeBack_61 3 rfl ?_
    refine rhF.get (pc := 62) (rhR _) dX11_takeBack_62 fl_X11_33 h4 rfl ?_
    refine rhF.aload_n (pc := 65) dX11_takeBack_65 3 rfl ?_
    refine rhF.get (pc := 66) (rhR _) dX11_takeBack_66 fl_X11_23 h4 rfl ?_
    refine rhF.aload_n (pc := 69) dX11_takeBack_69 3 rfl ?_
    refine rhF.get (pc := 70) (rhR _) dX11_takeBack_70 fl_X11_33 h4 rfl ?_
    refine rhF.iload (pc := 73) dX11_takeBack_73 0 rfl ?_
    refine rhF.iload_n (pc := 75) dX11_takeBack_75 1 rfl ?_
    refine rhF.iload_n (pc := 76) dX11_takeBack_76 2 rfl ?_
    refine rhF.callV (pc := 77) (ci := 7) (embc := rhe0J _ _) [rhI _, rhI _, rhI _] dX11_takeBack_77 ml_X11_180 mv_X7_after ⟨_, rfl, rfl⟩ h9 (c_X7_after _ _ _ _ _ _ _) (by decide) (by decide) rfl (Nat.le_of_ble_eq_true rfl) (fun r14 _ => ?_)
    refine rhF.callV (pc := 80) (ci := 7) (embc := rhe1U _) [rhR _, rhJ _] dX11_takeBack_80 ml_X11_91 mv_X7_look ⟨_, rfl, rfl⟩ h9 (c_X7_look _ _ _ _ _ _) (by decide) (by decide) rfl (Nat.le_of_ble_eq_true rfl) (fun r15 _ => ?_)
    exact rhF.vret (pc := 83) dX11_takeBack_83 rfl rfl
theorem c_X11_takeBack (E : rhE) (Γ : rhG) (M : rhM) (v0 : Nat) (v1 : Int32) : ∀ a, f_X11_takeBack Γ M v0 v1 = some a → rhC E 7 yX11_takeBack cX11_takeBack 5 none [rhR v0, rhI v1] Γ M ((rhe1U Γ) a) := rhF.met (by decide +kernel) (Nat.le_of_ble_eq_true rfl) (b_X11_takeBack M v0 v1)
def f_X11_tell (Γ : rhG) (M : rhM) (v0 : Nat) (v1 : Int32) (v2 : Int32) (v3 : Int32) : Option (Int32 × rhM) :=
  rhck (Γ.2.2.1 v0 = 12) <|
  (f_X11_areUnlikeRails Γ M v0 v1 v3).bind fun r2 =>
  if r2 = 0 then
    (some (((-1), M)))
  else
    if v2 < 1 then
      (some (((-1), M)))
    else
      if 8 < v2 then
        (some (((-1), M)))
      else
        (f_X3_code Γ M v1 v2 v3).bind fun r6 =>
        rhck (Γ.2.2.1 (M.2.2 v0 8) = 4) <|
        (f_X3_add Γ M (M.2.2 v0 8) r6).bind fun r8 =>
        if r8.1 = 0 then
          (some (((-1), r8.2)))
        else
          rhck (Γ.2.2.1 (r8.2.2.2 v0 8) = 4) <|
          some ((r8.2.1 (r8.2.2.2 v0 8) 1, r8.2))
set_option maxHeartbeats 4000000 in
set_option maxRecDepth 100000 in
theorem b_X11_tell {E : rhE} {Γ : rhG} : ∀ (M : rhM) (v0 : Nat) (v1 : Int32) (v2 : Int32) (v3 : Int32), rhF E 6 4 yX11_tell cX11_tell (some .int) Γ (rhe1I Γ) (f_X11_tell Γ M v0 v1 v2 v3) 0 [(0, rhR v0), (1, rhI v1), (2, rhI v2), (3, rhI v3)] [] Γ M := by
  intro M v0 v1 v2 v3
  rw [f_X11_tell]
  refine rhF.aload_n (pc := 0) dX11_tell_0 0 rfl ?_
  refine rhF.iload_n (pc := 1) dX11_tell_1 1 rfl ?_
  refine rhF.iload_n (pc := 2) dX11_tell_2 3 rfl ?_
  refine rhF.ck (fun h1 => ?_)
  refine rhF.callV (pc := 3) (ci := 11) (embc := rhe0I _ _) [rhI _, rhI _] dX11_tell_3 ml_X11_144 mv_X11_areUnlikeRails ⟨_, rfl, rfl⟩ h1 (c_X11_areUnlikeRails _ _ _ _ _ _) (by decide) (by decide) rfl (Nat.le_of_ble_eq_true rfl) (fun r2 _ => ?_)
  refine rhF.if_eq (pc := 6) 20 dX11_tell_6 (by decide) (fun h3 => ?_) (fun h3 => ?_)
  · refine rhF.iconst (pc := 20) (v := (-1)) dX11_tell_20 (by decide) ?_
    exact rhF.zret (pc := 21) dX11_tell_21 rfl rfl rfl
  · refine rhF.iload_n (pc := 9) dX11_tell_9 2 rfl ?_
    refine rhF.iconst (pc := 10) (v := 1) dX11_tell_10 (by decide) ?_
    refine rhF.icmp_lt (pc := 11) 20 dX11_tell_11 (by decide) (fun h4 => ?_) (fun h4 => ?_)
    · refine rhF.iconst (pc := 20) (v := (-1)) dX11_tell_20 (by decide) ?_
      exact rhF.zret (pc := 21) dX11_tell_21 rfl rfl rfl
    · refine rhF.iload_n (pc := 14) dX11_tell_14 2 rfl ?_
      refine rhF.bipush (pc := 15) (v := 8) dX11_tell_15 (by decide) ?_
      refine rhF.icmp_le (pc := 17) 22 dX11_tell_17 (by decide) (fun h5 => ?_) (fun h5 => ?_)
      · refine rhF.iconst (pc := 20) (v := (-1)) dX11_tell_20 (by decide) ?_
        exact rhF.zret (pc := 21) dX11_tell_21 rfl rfl rfl
      · refine rhF.aload_n (pc := 22) dX11_tell_22 0 rfl ?_
        refine rhF.get (pc := 23) (rhR _) dX11_tell_23 fl_X11_49 h1 rfl ?_
        refine rhF.iload_n (pc := 26) dX11_tell_26 1 rfl ?_
        refine rhF.iload_n (pc := 27) dX11_tell_27 2 rfl ?_
        refine rhF.iload_n (pc := 28) dX11_tell_28 3 rfl ?_
        refine rhF.callS (pc := 29) (embc := rhe0I _ _) [rhI _, rhI _, rhI _] dX11_tell_29 ml_X11_170 ms_X3_code (c_X3_code _ _ _ _ _ _) (by decide) (by decide) rfl (Nat.le_of_ble_eq_true rfl) (fun r6 _ => ?_)
        refine rhF.ck (fun h7 => ?_)
        refine rhF.callV (pc := 32) (ci := 3) (embc := rhe1I _) [rhI _] dX11_tell_32 ml_X11_174 mv_X3_add ⟨_, rfl, rfl⟩ h7 (c_X3_add _ _ _ _ _) (by decide) (by decide) rfl (Nat.le_of_ble_eq_true rfl) (fun r8 _ => ?_)
        refine rhF.if_eq (pc := 35) 48 dX11_tell_35 (by decide) (fun h9 => ?_) (fun h9 => ?_)
        · refine rhF.iconst (pc := 48) (v := (-1)) dX11_tell_48 (by decide) ?_
          exact rhF.zret (pc := 49) dX11_tell_49 rfl rfl rfl
        · refine rhF.aload_n (pc := 38) dX11_tell_38 0 rfl ?_
          refine rhF.get (pc := 39) (rhR _) dX11_tell_39 fl_X11_49 h1 rfl ?_
          refine rhF.ck (fun h10 => ?_)
          refine rhF.get (pc := 42) (rhI _) dX11_tell_42 fl_X11_184 h10 rfl ?_
          refine rhF.goto (pc := 45) 49 dX11_tell_45 (by decide) ?_
          exact rhF.zret (pc := 49) dX11_tell_49 rfl rfl rfl
theorem c_X11_tell (E : rhE) (Γ : rhG) (M : rhM) (v0 : Nat) (v1 : Int32) (v2 : Int32) (v3 : Int32) : ∀ a, f_X11_tell Γ M v0 v1 v2 v3 = some a → rhC E 6 yX11_tell cX11_tell 4 (some .int) [rhR v0, rhI v1, rhI v2, rhI v3] Γ M ((rhe1I Γ) a) := rhF.met (by decide +kernel) (Nat.le_of_ble_eq_true rfl) (b_X11_tell M v0 v1 v2 v3)
def f_X11_town (Γ : rhG) (M : rhM) (v0 : Nat) : Option (Int32 × rhM) :=
  rhck (Γ.2.2.1 v0 = 12) <|
  rhck (Γ.2.2.1 (M.2.2 v0 2) = 5) <|
  (f_X4_reads Γ M (M.2.2 v0 2) (M.2.2 v0 0) (M.1 v0 1) (M.2.2 v0 4)).bind fun r3 =>
  let x4 := r3.1
  let M5 := rhsi r3.2 v0 1 0
  if x4 = 0 then
    (some (((-1), M5)))
  else
    let x7 := r3.2.2.2 v0 3
    let M8 := rhsr M5 v0 3 (r3.2.2.2 v0 4)
    let M9 := rhsr M8 v0 4 x7
    (f_X11_beginTown Γ M9 v0).bind fun r10 =>
    rhck (Γ.2.2.1 (r10.2.2 v0 3) = 10) <|
    some ((r10.1 (r10.2.2 v0 3) 1, r10))
set_option maxHeartbeats 4000000 in
set_option maxRecDepth 100000 in
theorem b_X11_town {E : rhE} {Γ : rhG} : ∀ (M : rhM) (v0 : Nat), rhF E 71 3 yX11_town cX11_town (some .int) Γ (rhe1I Γ) (f_X11_town Γ M v0) 0 [(0, rhR v0)] [] Γ M := by
  intro M v0
  rw [f_X11_town]
  refine rhF.aload_n (pc := 0) dX11_town_0 0 rfl ?_
  refine rhF.ck (fun h1 => ?_)
  refine rhF.get (pc := 1) (rhR _) dX11_town_1 fl_X11_16 h1 rfl ?_
  refine rhF.aload_n (pc := 4) dX11_town_4 0 rfl ?_
  refine rhF.get (pc := 5) (rhR _) dX11_town_5 fl_X11_9 h1 rfl ?_
  refine rhF.aload_n (pc := 8) dX11_town_8 0 rfl ?_
  refine rhF.get (pc := 9) (rhI _) dX11_town_9 fl_X11_73 h1 rfl ?_
  refine rhF.aload_n (pc := 12) dX11_town_12 0 rfl ?_
  refine rhF.get (pc := 13) (rhR _) dX11_town_13 fl_X11_27 h1 rfl ?_
  refine rhF.ck (fun h2 => ?_)
  refine rhF.callV (pc := 16) (ci := 4) (embc := rhe1I _) [rhR _, rhI _, rhR _] dX11_town_16 ml_X11_80 mv_X4_reads ⟨_, rfl, rfl⟩ h2 (c_X4_reads _ _ _ _ _ _ _) (by decide) (by decide) rfl (Nat.le_of_ble_eq_true rfl) (fun r3 _ => ?_)
  refine rhF.istore_n (pc := 19) (L' := [(1, rhI _), (0, rhR _)]) dX11_town_19 (by decide) rfl ?_
  refine rhF.aload_n (pc := 20) dX11_town_20 1 rfl ?_
  refine rhF.iconst (pc := 21) (v := 0) dX11_town_21 (by decide) ?_
  refine rhF.puti (pc := 22) dX11_town_22 fl_X11_73 h1 (fun q hq => by cases hq; exact Or.inl rfl) ⟨rfl, rfl⟩ (fun _ => rfl) ?_
  refine rhF.iload_n (pc := 25) dX11_town_25 0 rfl ?_
  refine rhF.if_ne (pc := 26) 31 dX11_town_26 (by decide) (fun h6 => ?_) (fun h6 => ?_)
  · refine rhF.iconst (pc := 29) (v := (-1)) dX11_town_29 (by decide) ?_
    exact rhF.zret (pc := 30) dX11_town_30 rfl rfl rfl
  · refine rhF.aload_n (pc := 31) dX11_town_31 1 rfl ?_
    refine rhF.get (pc := 32) (rhR _) dX11_town_32 fl_X11_23 h1 rfl ?_
    refine rhF.astore_n (pc := 35) (L' := [(2, rhR _), (1, rhI _), (0, rhR _)]) dX11_town_35 (by decide) rfl ?_
    refine rhF.aload_n (pc := 36) dX11_town_36 2 rfl ?_
    refine rhF.aload_n (pc := 37) dX11_town_37 2 rfl ?_
    refine rhF.get (pc := 38) (rhR _) dX11_town_38 fl_X11_27 h1 rfl ?_
    refine rhF.putr (pc := 41) dX11_town_41 fl_X11_23 h1 (fun q hq => by cases hq; exact Or.inl rfl) (Or.inl ⟨_, rfl⟩) (fun _ => rfl) ?_
    refine rhF.aload_n (pc := 44) dX11_town_44 2 rfl ?_
    refine rhF.aload_n (pc := 45) dX11_town_45 0 rfl ?_
    refine rhF.putr (pc := 46) dX11_town_46 fl_X11_27 h1 (fun q hq => by cases hq; exact Or.inl rfl) (Or.inl ⟨_, rfl⟩) (fun _ => rfl) ?_
    refine rhF.aload_n (pc := 49) dX11_town_49 2 rfl ?_
    refine rhF.callV (pc := 50) (ci := 11) (embc := rhe1U _) [] dX11_town_50 ml_X11_70 mv_X11_beginTown ⟨_, rfl, rfl⟩ h1 (c_X11_beginTown _ _ _ _) (by decide) (by decide) rfl (Nat.le_of_ble_eq_true rfl) (fun r10 _ => ?_)
    refine rhF.aload_n (pc := 53) dX11_town_53 2 rfl ?_
    refine rhF.get (pc := 54) (rhR _) dX11_town_54 fl_X11_23 h1 rfl ?_
    refine rhF.ck (fun h11 => ?_)
    refine rhF.get (pc := 57) (rhI _) dX11_town_57 fl_X11_84 h11 rfl ?_
    exact rhF.zret (pc := 60) dX11_town_60 rfl rfl rfl
theorem c_X11_town (E : rhE) (Γ : rhG) (M : rhM) (v0 : Nat) : ∀ a, f_X11_town Γ M v0 = some a → rhC E 71 yX11_town cX11_town 3 (some .int) [rhR v0] Γ M ((rhe1I Γ) a) := rhF.met (by decide +kernel) (Nat.le_of_ble_eq_true rfl) (b_X11_town M v0)
def f_X11_undo_27 (Γ : rhG) : Nat → rhM → Nat → Int32 → Int32 → Option (Int32 × rhM)
  | 0, _, _, _, _ => none
  | n + 1, M, v0, v2, v3 =>
    if v3 < v2 then
      (rhck (Γ.2.2.1 v0 = 12) <|
      rhck (Γ.2.2.1 (M.2.2 v0 7) = 4) <|
      rhck (Γ.2.2.1 (M.2.2 (M.2.2 v0 7) 0) = 15) <|
      rhck (0 ≤ ((M.1 (M.2.2 v0 7) 1) - 1).toInt ∧ ((M.1 (M.2.2 v0 7) 1) - 1).toInt < (Γ.2.2.2 (M.2.2 (M.2.2 v0 7) 0) : Nat)) <|
      (f_X11_takeBack Γ M v0 (M.1 (M.2.2 (M.2.2 v0 7) 0) ((M.1 (M.2.2 v0 7) 1) - 1).toNatClampNeg)).bind fun r11 =>
      rhck (Γ.2.2.1 (r11.2.2 v0 7) = 4) <|
      let M13 := rhsi r11 (r11.2.2 v0 7) 1 ((r11.1 (r11.2.2 v0 7) 1) - 1)
      let x14 : Int32 := v3 + 1
      f_X11_undo_27 Γ n M13 v0 v2 x14)
    else
      some ((v2, M))
def f_X11_undo (Γ : rhG) (M : rhM) (v0 : Nat) (v1 : Int32) : Option (Int32 × rhM) :=
  if v1 < 0 then
    (some (((-1), M)))
  else
    if 300 < v1 then
      (some (((-1), M)))
    else
      rhck (Γ.2.2.1 v0 = 12) <|
      rhck (Γ.2.2.1 (M.2.2 v0 7) = 4) <|
      let x5 : Int32 := if (M.1 (M.2.2 v0 7) 1) < v1 then M.1 (M.2.2 v0 7) 1 else v1
      f_X11_undo_27 Γ rhFU M v0 x5 0
set_option maxHeartbeats 4000000 in
set_option maxRecDepth 100000 in
theorem b_X11_undo_27 {E : rhE} {Γ : rhG} : ∀ (n : Nat) (M : rhM) (v0 : Nat) (v2 : Int32) (v3 : Int32), rhF E 8 4 yX11_undo cX11_undo (some .int) Γ (rhe1I Γ) (f_X11_undo_27 Γ n M v0 v2 v3) 27 [(0, rhR v0), (2, rhI v2), (3, rhI v3)] [] Γ M := by
  intro n
  induction n with
  | zero => intro M v0 v2 v3; rw [f_X11_undo_27]; exact rhF.nope
  | succ n ih =>
    intro M v0 v2 v3
    rw [f_X11_undo_27]
    refine rhF.iload_n (pc := 27) dX11_undo_27 2 rfl ?_
    refine rhF.iload_n (pc := 28) dX11_undo_28 1 rfl ?_
    refine rhF.icmp_ge (pc := 29) 72 dX11_undo_29 (by decide) (fun h6 => ?_) (fun h6 => ?_)
    · refine rhF.aload_n (pc := 32) dX11_undo_32 0 rfl ?_
      refine rhF.aload_n (pc := 33) dX11_undo_33 0 rfl ?_
      refine rhF.ck (fun h7 => ?_)
      refine rhF.get (pc := 34) (rhR _) dX11_undo_34 fl_X11_45 h7 rfl ?_
      refine rhF.ck (fun h8 => ?_)
      refine rhF.get (pc := 37) (rhR _) dX11_undo_37 fl_X11_192 h8 rfl ?_
      refine rhF.aload_n (pc := 40) dX11_undo_40 0 rfl ?_
      refine rhF.get (pc := 41) (rhR _) dX11_undo_41 fl_X11_45 h7 rfl ?_
      refine rhF.get (pc := 44) (rhI _) dX11_undo_44 fl_X11_184 h8 rfl ?_
      refine rhF.iconst (pc := 47) (v := 1) dX11_undo_47 (by decide) ?_
      refine rhF.isub (pc := 48) dX11_undo_48 ?_
      refine rhF.ck (fun h9 => ?_)
      refine rhF.ck (fun h10 => ?_)
      refine rhF.iald (pc := 49) dX11_undo_49 h9 h10 ?_
      refine rhF.callV (pc := 50) (ci := 11) (embc := rhe1U _) [rhI _] dX11_undo_50 ml_X11_195 mv_X11_takeBack ⟨_, rfl, rfl⟩ h7 (c_X11_takeBack _ _ _ _ _) (by decide) (by decide) rfl (Nat.le_of_ble_eq_true rfl) (fun r11 _ => ?_)
      refine rhF.aload_n (pc := 53) dX11_undo_53 0 rfl ?_
      refine rhF.get (pc := 54) (rhR _) dX11_undo_54 fl_X11_45 h7 rfl ?_
      refine rhF.dupr (pc := 57) dX11_undo_57 ?_
      refine rhF.ck (fun h12 => ?_)
      refine rhF.get (pc := 58) (rhI _) dX11_undo_58 fl_X11_184 h12 rfl ?_
      refine rhF.iconst (pc := 61) (v := 1) dX11_undo_61 (by decide) ?_
      refine rhF.isub (pc := 62) dX11_undo_62 ?_
      refine rhF.puti (pc := 63) dX11_undo_63 fl_X11_184 h12 (fun q hq => by cases hq; exact Or.inl rfl) ⟨rfl, rfl⟩ (fun _ => rfl) ?_
      refine rhF.iinc (pc := 66) (L' := [(3, rhI _), (0, rhR _), (2, rhI _)]) dX11_undo_66 2 rfl rfl (by decide) rfl ?_
      refine rhF.goto (pc := 69) 27 dX11_undo_69 (by decide) ?_
      refine rhF.sub [1, 2, 0] rfl ?_
      exact ih _ _ _ _
    · refine rhF.iload_n (pc := 72) dX11_undo_72 1 rfl ?_
      exact rhF.zret (pc := 73) dX11_undo_73 rfl rfl rfl
set_option maxHeartbeats 4000000 in
set_option maxRecDepth 100000 in
theorem b_X11_undo {E : rhE} {Γ : rhG} : ∀ (M : rhM) (v0 : Nat) (v1 : Int32), rhF E 8 4 yX11_undo cX11_undo (some .int) Γ (rhe1I Γ) (f_X11_undo Γ M v0 v1) 0 [(0, rhR v0), (1, rhI v1)] [] Γ M := by
  intro M v0 v1
  rw [f_X11_undo]
  refine rhF.iload_n (pc := 0) dX11_undo_0 1 rfl ?_
  refine rhF.if_lt (pc := 1) 11 dX11_undo_1 (by decide) (fun h1 => ?_) (fun h1 => ?_)
  · refine rhF.iconst (pc := 11) (v := (-1)) dX11_undo_11 (by decide) ?_
    exact rhF.zret (pc := 12) dX11_undo_12 rfl rfl rfl
  · refine rhF.iload_n (pc := 4) dX11_undo_4 1 rfl ?_
    refine rhF.sipush (pc := 5) (v := 300) dX11_undo_5 (by decide) ?_
    refine rhF.icmp_le (pc := 8) 13 dX11_undo_8 (by decide) (fun h2 => ?_) (fun h2 => ?_)
    · refine rhF.iconst (pc := 11) (v := (-1)) dX11_undo_11 (by decide) ?_
      exact rhF.zret (pc := 12) dX11_undo_12 rfl rfl rfl
    · refine rhF.iload_n (pc := 13) dX11_undo_13 1 rfl ?_
      refine rhF.aload_n (pc := 14) dX11_undo_14 0 rfl ?_
      refine rhF.ck (fun h3 => ?_)
      refine rhF.get (pc := 15) (rhR _) dX11_undo_15 fl_X11_45 h3 rfl ?_
      refine rhF.ck (fun h4 => ?_)
      refine rhF.get (pc := 18) (rhI _) dX11_undo_18 fl_X11_184 h4 rfl ?_
      refine rhF.mmin (pc := 21) dX11_undo_21 mm_X11_187 (by decide) (Nat.le_of_ble_eq_true rfl) ?_
      refine rhF.istore_n (pc := 24) (L' := [(2, rhI _), (0, rhR _), (1, rhI _)]) dX11_undo_24 (by decide) rfl ?_
      refine rhF.iconst (pc := 25) (v := 0) dX11_undo_25 (by decide) ?_
      refine rhF.istore_n (pc := 26) (L' := [(3, rhI _), (2, rhI _), (0, rhR _), (1, rhI _)]) dX11_undo_26 (by decide) rfl ?_
      refine rhF.sub [2, 1, 0] rfl ?_
      exact (b_X11_undo_27 rhFU) _ _ _ _
theorem c_X11_undo (E : rhE) (Γ : rhG) (M : rhM) (v0 : Nat) (v1 : Int32) : ∀ a, f_X11_undo Γ M v0 v1 = some a → rhC E 8 yX11_undo cX11_undo 4 (some .int) [rhR v0, rhI v1] Γ M ((rhe1I Γ) a) := rhF.met (by decide +kernel) (Nat.le_of_ble_eq_true rfl) (b_X11_undo M v0 v1)
def f_X11_untell (Γ : rhG) (M : rhM) (v0 : Nat) (v1 : Int32) : Option (Int32 × rhM) :=
  rhck (Γ.2.2.1 v0 = 12) <|
  rhck (Γ.2.2.1 (M.2.2 v0 14) = 7) <|
  (f_X6_remove Γ M (M.2.2 v0 14) v1 (M.1 v0 16)).bind fun r3 =>
  rhck (r3.1 = 0 ∨ r3.1 = 1) <|
  some ((r3.1, r3.2))
set_option maxHeartbeats 4000000 in
set_option maxRecDepth 100000 in
theorem b_X11_untell {E : rhE} {Γ : rhG} : ∀ (M : rhM) (v0 : Nat) (v1 : Int32), rhF E 5 2 yX11_untell cX11_untell (some .boolean) Γ (rhe1I Γ) (f_X11_untell Γ M v0 v1) 0 [(0, rhR v0), (1, rhI v1)] [] Γ M := by
  intro M v0 v1
  rw [f_X11_untell]
  refine rhF.aload_n (pc := 0) dX11_untell_0 0 rfl ?_
  refine rhF.ck (fun h1 => ?_)
  refine rhF.get (pc := 1) (rhR _) dX11_untell_1 fl_X11_66 h1 rfl ?_
  refine rhF.iload_n (pc := 4) dX11_untell_4 1 rfl ?_
  refine rhF.aload_n (pc := 5) dX11_untell_5 0 rfl ?_
  refine rhF.get (pc := 6) (rhI _) dX11_untell_6 fl_X11_280 h1 rfl ?_
  refine rhF.ck (fun h2 => ?_)
  refine rhF.callV (pc := 9) (ci := 6) (embc := rhe1I _) [rhI _, rhI _] dX11_untell_9 ml_X11_286 mv_X6_remove ⟨_, rfl, rfl⟩ h2 (c_X6_remove _ _ _ _ _ _) (by decide) (by decide) rfl (Nat.le_of_ble_eq_true rfl) (fun r3 _ => ?_)
  refine rhF.ck (fun h4 => ?_)
  exact rhF.zret (pc := 12) dX11_untell_12 rfl (rhzb h4) rfl
theorem c_X11_untell (E : rhE) (Γ : rhG) (M : rhM) (v0 : Nat) (v1 : Int32) : ∀ a, f_X11_untell Γ M v0 v1 = some a → rhC E 5 yX11_untell cX11_untell 2 (some .boolean) [rhR v0, rhI v1] Γ M ((rhe1I Γ) a) := rhF.met (by decide +kernel) (Nat.le_of_ble_eq_true rfl) (b_X11_untell M v0 v1)
def f_X11_where (Γ : rhG) (M : rhM) (v0 : Nat) (v1 : Int32) (v2 : Int32) : Option (Int32) :=
  rhck (Γ.2.2.1 v0 = 12) <|
  (f_X11_isHouse Γ M v0 v1).bind fun r2 =>
  if r2 = 0 then
    (some ((-1)))
  else
    if v2 = 0 then
      (rhck (Γ.2.2.1 (M.2.2 v0 5) = 8) <|
      (f_X7_railOf Γ M (M.2.2 v0 5) v1).bind fun r6 =>
      some r6)
    else
    if v2 = 1 then
      (rhck (Γ.2.2.1 (M.2.2 v0 5) = 8) <|
      (f_X7_aheadOf Γ M (M.2.2 v0 5) v1).bind fun r9 =>
      some r9)
    else
    some ((-1))
set_option maxHeartbeats 4000000 in
set_option maxRecDepth 100000 in
theorem b_X11_where {E : rhE} {Γ : rhG} {M : rhM} : ∀ (v0 : Nat) (v1 : Int32) (v2 : Int32), rhF E 7 3 yX11_where cX11_where (some .int) Γ (rhe0I Γ M) (f_X11_where Γ M v0 v1 v2) 0 [(0, rhR v0), (1, rhI v1), (2, rhI v2)] [] Γ M := by
  intro v0 v1 v2
  rw [f_X11_where]
  refine rhF.aload_n (pc := 0) dX11_where_0 0 rfl ?_
  refine rhF.iload_n (pc := 1) dX11_where_1 1 rfl ?_
  refine rhF.ck (fun h1 => ?_)
  refine rhF.callV (pc := 2) (ci := 11) (embc := rhe0I _ _) [rhI _] dX11_where_2 ml_X11_125 mv_X11_isHouse ⟨_, rfl, rfl⟩ h1 (c_X11_isHouse _ _ _ _ _) (by decide) (by decide) rfl (Nat.le_of_ble_eq_true rfl) (fun r2 _ => ?_)
  refine rhF.if_ne (pc := 5) 10 dX11_where_5 (by decide) (fun h3 => ?_) (fun h3 => ?_)
  · refine rhF.iconst (pc := 8) (v := (-1)) dX11_where_8 (by decide) ?_
    exact rhF.zret (pc := 9) dX11_where_9 rfl rfl rfl
  · refine rhF.iload_n (pc := 10) dX11_where_10 2 rfl ?_
    refine rhF.ite (fun h4 => ?_) (fun h4 => ?_)
    · refine rhF.ls (pc := 11) 36 dX11_where_11 (by decide) (by rw [h4] <;> rfl) (by decide) ?_
      refine rhF.aload_n (pc := 36) dX11_where_36 0 rfl ?_
      refine rhF.get (pc := 37) (rhR _) dX11_where_37 fl_X11_33 h1 rfl ?_
      refine rhF.iload_n (pc := 40) dX11_where_40 1 rfl ?_
      refine rhF.ck (fun h5 => ?_)
      refine rhF.callV (pc := 41) (ci := 7) (embc := rhe0I _ _) [rhI _] dX11_where_41 ml_X11_128 mv_X7_railOf ⟨_, rfl, rfl⟩ h5 (c_X7_railOf _ _ _ _ _) (by decide) (by decide) rfl (Nat.le_of_ble_eq_true rfl) (fun r6 _ => ?_)
      exact rhF.zret (pc := 44) dX11_where_44 rfl rfl rfl
    · skip
      refine rhF.ite (fun h7 => ?_) (fun h7 => ?_)
      · refine rhF.ls (pc := 11) 45 dX11_where_11 (by decide) (by rw [h7] <;> rfl) (by decide) ?_
        refine rhF.aload_n (pc := 45) dX11_where_45 0 rfl ?_
        refine rhF.get (pc := 46) (rhR _) dX11_where_46 fl_X11_33 h1 rfl ?_
        refine rhF.iload_n (pc := 49) dX11_where_49 1 rfl ?_
        refine rhF.ck (fun h8 => ?_)
        refine rhF.callV (pc := 50) (ci := 7) (embc := rhe0I _ _) [rhI _] dX11_where_50 ml_X11_131 mv_X7_aheadOf ⟨_, rfl, rfl⟩ h8 (c_X7_aheadOf _ _ _ _ _) (by decide) (by decide) rfl (Nat.le_of_ble_eq_true rfl) (fun r9 _ => ?_)
        exact rhF.zret (pc := 53) dX11_where_53 rfl rfl rfl
      · skip
        refine rhF.ls (pc := 11) 54 dX11_where_11 (by decide) (rhlkd _ _ _ (List.forall_mem_cons.mpr ⟨rhne h4 (n := 0) (by decide), List.forall_mem_cons.mpr ⟨rhne h7 (n := 1) (by decide), fun _ h => absurd h List.not_mem_nil⟩⟩)) (by decide) ?_
        refine rhF.iconst (pc := 54) (v := (-1)) dX11_where_54 (by decide) ?_
        exact rhF.zret (pc := 55) dX11_where_55 rfl rfl rfl
theorem c_X11_where (E : rhE) (Γ : rhG) (M : rhM) (v0 : Nat) (v1 : Int32) (v2 : Int32) : ∀ a, f_X11_where Γ M v0 v1 v2 = some a → rhC E 7 yX11_where cX11_where 3 (some .int) [rhR v0, rhI v1, rhI v2] Γ M ((rhe0I Γ M) a) := rhF.met (by decide +kernel) (Nat.le_of_ble_eq_true rfl) (b_X11_where v0 v1 v2)
def f_X11_worth (Γ : rhG) (M : rhM) (v0 : Nat) : Option (Int32) :=
  rhck (Γ.2.2.1 v0 = 12) <|
  rhck (Γ.2.2.1 (M.2.2 v0 5) = 8) <|
  rhck (Γ.2.2.1 (M.2.2 v0 3) = 10) <|
  (f_X9_worthOf Γ M (M.2.2 v0 3) (M.2.1 (M.2.2 v0 5) 0)).bind fun r4 =>
  some r4
set_option maxHeartbeats 4000000 in
set_option maxRecDepth 100000 in
theorem b_X11_worth {E : rhE} {Γ : rhG} {M : rhM} : ∀ (v0 : Nat), rhF E 6 1 yX11_worth cX11_worth (some .int) Γ (rhe0I Γ M) (f_X11_worth Γ M v0) 0 [(0, rhR v0)] [] Γ M := by
  intro v0
  rw [f_X11_worth]
  refine rhF.aload_n (pc := 0) dX11_worth_0 0 rfl ?_
  refine rhF.ck (fun h1 => ?_)
  refine rhF.get (pc := 1) (rhR _) dX11_worth_1 fl_X11_23 h1 rfl ?_
  refine rhF.aload_n (pc := 4) dX11_worth_4 0 rfl ?_
  refine rhF.get (pc := 5) (rhR _) dX11_worth_5 fl_X11_33 h1 rfl ?_
  refine rhF.ck (fun h2 => ?_)
  refine rhF.get (pc := 8) (rhJ _) dX11_worth_8 fl_X11_207 h2 rfl ?_
  refine rhF.ck (fun h3 => ?_)
  refine rhF.callV (pc := 11) (ci := 9) (embc := rhe0I _ _) [rhJ _] dX11_worth_11 ml_X11_210 mv_X9_worthOf ⟨_, rfl, rfl⟩ h3 (c_X9_worthOf _ _ _ _ _) (by decide) (by decide) rfl (Nat.le_of_ble_eq_true rfl) (fun r4 _ => ?_)
  exact rhF.zret (pc := 14) dX11_worth_14 rfl rfl rfl
theorem c_X11_worth (E : rhE) (Γ : rhG) (M : rhM) (v0 : Nat) : ∀ a, f_X11_worth Γ M v0 = some a → rhC E 6 yX11_worth cX11_worth 1 (some .int) [rhR v0] Γ M ((rhe0I Γ M) a) := rhF.met (by decide +kernel) (Nat.le_of_ble_eq_true rfl) (b_X11_worth v0)
def f_X12_houseMany (Γ : rhG) (M : rhM) (v0 : Nat) : Option (Int32) :=
  rhck (Γ.2.2.1 v0 = 13) <|
  rhck (Γ.2.2.1 (M.2.2 v0 12) = 15) <|
  rhck (0 ≤ (M.1 v0 34).toInt ∧ (M.1 v0 34).toInt < (Γ.2.2.2 (M.2.2 v0 12) : Nat)) <|
  some (M.1 (M.2.2 v0 12) (M.1 v0 34).toNatClampNeg)
set_option maxHeartbeats 4000000 in
set_option maxRecDepth 100000 in
theorem b_X12_houseMany {E : rhE} {Γ : rhG} {M : rhM} : ∀ (v0 : Nat), rhF E 1 1 yX12_houseMany cX12_houseMany (some .int) Γ (rhe0I Γ M) (f_X12_houseMany Γ M v0) 0 [(0, rhR v0)] [] Γ M := by
  intro v0
  rw [f_X12_houseMany]
  refine rhF.aload_n (pc := 0) dX12_houseMany_0 0 rfl ?_
  refine rhF.ck (fun h1 => ?_)
  refine rhF.get (pc := 1) (rhR _) dX12_houseMany_1 fl_X12_24 h1 rfl ?_
  refine rhF.aload_n (pc := 4) dX12_houseMany_4 0 rfl ?_
  refine rhF.get (pc := 5) (rhI _) dX12_houseMany_5 fl_X12_327 h1 rfl ?_
  refine rhF.ck (fun h2 => ?_)
  refine rhF.ck (fun h3 => ?_)
  refine rhF.iald (pc := 8) dX12_houseMany_8 h2 h3 ?_
  exact rhF.zret (pc := 9) dX12_houseMany_9 rfl rfl rfl
theorem c_X12_houseMany (E : rhE) (Γ : rhG) (M : rhM) (v0 : Nat) : ∀ a, f_X12_houseMany Γ M v0 = some a → rhC E 1 yX12_houseMany cX12_houseMany 1 (some .int) [rhR v0] Γ M ((rhe0I Γ M) a) := rhF.met (by decide +kernel) (Nat.le_of_ble_eq_true rfl) (b_X12_houseMany v0)
def f_X12_railMany (Γ : rhG) (M : rhM) (v0 : Nat) : Option (Int32) :=
  rhck (Γ.2.2.1 v0 = 13) <|
  rhck (Γ.2.2.1 (M.2.2 v0 11) = 15) <|
  rhck (0 ≤ (M.1 v0 34).toInt ∧ (M.1 v0 34).toInt < (Γ.2.2.2 (M.2.2 v0 11) : Nat)) <|
  some (M.1 (M.2.2 v0 11) (M.1 v0 34).toNatClampNeg)
set_option maxHeartbeats 4000000 in
set_option maxRecDepth 100000 in
theorem b_X12_railMany {E : rhE} {Γ : rhG} {M : rhM} : ∀ (v0 : Nat), rhF E 1 1 yX12_railMany cX12_railMany (some .int) Γ (rhe0I Γ M) (f_X12_railMany Γ M v0) 0 [(0, rhR v0)] [] Γ M := by
  intro v0
  rw [f_X12_railMany]
  refine rhF.aload_n (pc := 0) dX12_railMany_0 0 rfl ?_
  refine rhF.ck (fun h1 => ?_)
  refine rhF.get (pc := 1) (rhR _) dX12_railMany_1 fl_X12_20 h1 rfl ?_
  refine rhF.aload_n (pc := 4) dX12_railMany_4 0 rfl ?_
  refine rhF.get (pc := 5) (rhI _) dX12_railMany_5 fl_X12_327 h1 rfl ?_
  refine rhF.ck (fun h2 => ?_)
  refine rhF.ck (fun h3 => ?_)
  refine rhF.iald (pc := 8) dX12_railMany_8 h2 h3 ?_
  exact rhF.zret (pc := 9) dX12_railMany_9 rfl rfl rfl
theorem c_X12_railMany (E : rhE) (Γ : rhG) (M : rhM) (v0 : Nat) : ∀ a, f_X12_railMany Γ M v0 = some a → rhC E 1 yX12_railMany cX12_railMany 1 (some .int) [rhR v0] Γ M ((rhe0I Γ M) a) := rhF.met (by decide +kernel) (Nat.le_of_ble_eq_true rfl) (b_X12_railMany v0)
def f_X12_about (Γ : rhG) (M : rhM) (v0 : Nat) (v1 : Int32) : Option (Int32) :=
  if v1 = 0 then
    (rhck (Γ.2.2.1 v0 = 13) <|
    (f_X12_houseMany Γ M v0).bind fun r3 =>
    some r3)
  else
  if v1 = 1 then
    (rhck (Γ.2.2.1 v0 = 13) <|
    (f_X12_railMany Γ M v0).bind fun r6 =>
    some r6)
  else
  if v1 = 2 then
    (rhck (Γ.2.2.1 v0 = 13) <|
    some (M.1 v0 48))
  else
  if v1 = 3 then
    (rhck (Γ.2.2.1 v0 = 13) <|
    some (M.1 v0 51))
  else
  if v1 = 4 then
    (rhck (Γ.2.2.1 v0 = 13) <|
    some (M.1 v0 53))
  else
  if v1 = 5 then
    (rhck (Γ.2.2.1 v0 = 13) <|
    some (M.1 v0 82))
  else
  if v1 = 6 then
    (rhck (Γ.2.2.1 v0 = 13) <|
    some (M.1 v0 83))
  else
  if v1 = 7 then
    (rhck (Γ.2.2.1 v0 = 13) <|
    some (M.1 v0 2))
  else
  if v1 = 8 then
    (rhck (Γ.2.2.1 v0 = 13) <|
    some (M.1 v0 49))
  else
  if v1 = 9 then
    (rhck (Γ.2.2.1 v0 = 13) <|
    rhck (Γ.2.2.1 (M.2.2 v0 14) = 15) <|
    rhck (0 ≤ (M.1 v0 34).toInt ∧ (M.1 v0 34).toInt < (Γ.2.2.2 (M.2.2 v0 14) : Nat)) <|
    some (M.1 (M.2.2 v0 14) (M.1 v0 34).toNatClampNeg))
  else
  if v1 = 10 then
    (rhck (Γ.2.2.1 v0 = 13) <|
    some (M.1 v0 66))
  else
  some ((-1))
set_option maxHeartbeats 4000000 in
set_option maxRecDepth 100000 in
theorem b_X12_about {E : rhE} {Γ : rhG} {M : rhM} : ∀ (v0 : Nat) (v1 : Int32), rhF E 5 2 yX12_about cX12_about (some .int) Γ (rhe0I Γ M) (f_X12_about Γ M v0 v1) 0 [(0, rhR v0), (1, rhI v1)] [] Γ M := by
  intro v0 v1
  rw [f_X12_about]
  refine rhF.iload_n (pc := 0) dX12_about_0 1 rfl ?_
  refine rhF.ite (fun h1 => ?_) (fun h1 => ?_)
  · refine rhF.tsIn (pc := 1) 60 0 dX12_about_1 (by rw [h1]; decide) (by decide) rfl (by decide) ?_
    refine rhF.aload_n (pc := 60) dX12_about_60 0 rfl ?_
    refine rhF.ck (fun h2 => ?_)
    refine rhF.callV (pc := 61) (ci := 12) (embc := rhe0I _ _) [] dX12_about_61 ml_X12_419 mv_X12_houseMany ⟨_, rfl, rfl⟩ h2 (c_X12_houseMany _ _ _ _) (by decide) (by decide) rfl (Nat.le_of_ble_eq_true rfl) (fun r3 _ => ?_)
    exact rhF.zret (pc := 64) dX12_about_64 rfl rfl rfl
  · skip
    refine rhF.ite (fun h4 => ?_) (fun h4 => ?_)
    · refine rhF.tsIn (pc := 1) 65 1 dX12_about_1 (by rw [h4]; decide) (by decide) rfl (by decide) ?_
      refine rhF.aload_n (pc := 65) dX12_about_65 0 rfl ?_
      refine rhF.ck (fun h5 => ?_)
      refine rhF.callV (pc := 66) (ci := 12) (embc := rhe0I _ _) [] dX12_about_66 ml_X12_412 mv_X12_railMany ⟨_, rfl, rfl⟩ h5 (c_X12_railMany _ _ _ _) (by decide) (by decide) rfl (Nat.le_of_ble_eq_true rfl) (fun r6 _ => ?_)
      exact rhF.zret (pc := 69) dX12_about_69 rfl rfl rfl
    · skip
      refine rhF.ite (fun h7 => ?_) (fun h7 => ?_)
      · refine rhF.tsIn (pc := 1) 70 2 dX12_about_1 (by rw [h7]; decide) (by decide) rfl (by decide) ?_
        refine rhF.aload_n (pc := 70) dX12_about_70 0 rfl ?_
        refine rhF.ck (fun h8 => ?_)
        refine rhF.get (pc := 71) (rhI _) dX12_about_71 fl_X12_458 h8 rfl ?_
        exact rhF.zret (pc := 74) dX12_about_74 rfl rfl rfl
      · skip
        refine rhF.ite (fun h9 => ?_) (fun h9 => ?_)
        · refine rhF.tsIn (pc := 1) 75 3 dX12_about_1 (by rw [h9]; decide) (by decide) rfl (by decide) ?_
          refine rhF.aload_n (pc := 75) dX12_about_75 0 rfl ?_
          refine rhF.ck (fun h10 => ?_)
          refine rhF.get (pc := 76) (rhI _) dX12_about_76 fl_X12_336 h10 rfl ?_
          exact rhF.zret (pc := 79) dX12_about_79 rfl rfl rfl
        · skip
          refine rhF.ite (fun h11 => ?_) (fun h11 => ?_)
          · refine rhF.tsIn (pc := 1) 80 4 dX12_about_1 (by rw [h11]; decide) (by decide) rfl (by decide) ?_
            refine rhF.aload_n (pc := 80) dX12_about_80 0 rfl ?_
            refine rhF.ck (fun h12 => ?_)
            refine rhF.get (pc := 81) (rhI _) dX12_about_81 fl_X12_339 h12 rfl ?_
            exact rhF.zret (pc := 84) dX12_about_84 rfl rfl rfl
          · skip
            refine rhF.ite (fun h13 => ?_) (fun h13 => ?_)
            · refine rhF.tsIn (pc := 1) 85 5 dX12_about_1 (by rw [h13]; decide) (by decide) rfl (by decide) ?_
              refine rhF.aload_n (pc := 85) dX12_about_85 0 rfl ?_
              refine rhF.ck (fun h14 => ?_)
              refine rhF.get (pc := 86) (rhI _) dX12_about_86 fl_X12_333 h14 rfl ?_
              exact rhF.zret (pc := 89) dX12_about_89 rfl rfl rfl
            · skip
              refine rhF.ite (fun h15 => ?_) (fun h15 => ?_)
              · refine rhF.tsIn (pc := 1) 90 6 dX12_about_1 (by rw [h15]; decide) (by decide) rfl (by decide) ?_
                refine rhF.aload_n (pc := 90) dX12_about_90 0 rfl ?_
                refine rhF.ck (fun h16 => ?_)
                refine rhF.get (pc := 91) (rhI _) dX12_about_91 fl_X12_555 h16 rfl ?_
                exact rhF.zret (pc := 94) dX12_about_94 rfl rfl rfl
              · skip
                refine rhF.ite (fun h17 => ?_) (fun h17 => ?_)
                · refine rhF.tsIn (pc := 1) 95 7 dX12_about_1 (by rw [h17]; decide) (by decide) rfl (by decide) ?_
                  refine rhF.aload_n (pc := 95) dX12_about_95 0 rfl ?_
                  refine rhF.ck (fun h18 => ?_)
                  refine rhF.get (pc := 96) (rhI _) dX12_about_96 fl_X12_324 h18 rfl ?_
                  exact rhF.zret (pc := 99) dX12_about_99 rfl rfl rfl
                · skip
                  refine rhF.ite (fun h19 => ?_) (fun h19 => ?_)
                  · refine rhF.tsIn (pc := 1) 100 8 dX12_about_1 (by rw [h19]; decide) (by decide) rfl (by decide) ?_
                    refine rhF.aload_n (pc := 100) dX12_about_100 0 rfl ?_
                    refine rhF.ck (fun h20 => ?_)
                    refine rhF.get (pc := 101) (rhI _) dX12_about_101 fl_X12_461 h20 rfl ?_
                    exact rhF.zret (pc := 104) dX12_about_104 rfl rfl rfl
                  · skip
                    refine rhF.ite (fun h21 => ?_) (fun h21 => ?_)
                    · refine rhF.tsIn (pc := 1) 105 9 dX12_about_1 (by rw [h21]; decide) (by decide) rfl (by decide) ?_
                      refine rhF.aload_n (pc := 105) dX12_about_105 0 rfl ?_
                      refine rhF.ck (fun h22 => ?_)
                      refine rhF.get (pc := 106) (rhR _) dX12_about_106 fl_X12_30 h22 rfl ?_
                      refine rhF.aload_n (pc := 109) dX12_about_109 0 rfl ?_
                      refine rhF.get (pc := 110) (rhI _) dX12_about_110 fl_X12_327 h22 rfl ?_
                      refine rhF.ck (fun h23 => ?_)
                      refine rhF.ck (fun h24 => ?_)
                      refine rhF.iald (pc := 113) dX12_about_113 h23 h24 ?_
                      exact rhF.zret (pc := 114) dX12_about_114 rfl rfl rfl
                    · skip
                      refine rhF.ite (fun h25 => ?_) (fun h25 => ?_)
                      · refine rhF.tsIn (pc := 1) 115 10 dX12_about_1 (by rw [h25]; decide) (by decide) rfl (by decide) ?_
                        refine rhF.aload_n (pc := 115) dX12_about_115 0 rfl ?_
                        refine rhF.ck (fun h26 => ?_)
                        refine rhF.get (pc := 116) (rhI _) dX12_about_116 fl_X12_342 h26 rfl ?_
                        exact rhF.zret (pc := 119) dX12_about_119 rfl rfl rfl
                      · skip
                        have zh1 := rhne h1 (n := 0) (by decide)
                        have zh4 := rhne h4 (n := 1) (by decide)
                        have zh7 := rhne h7 (n := 2) (by decide)
                        have zh9 := rhne h9 (n := 3) (by decide)
                        have zh11 := rhne h11 (n := 4) (by decide)
                        have zh13 := rhne h13 (n := 5) (by decide)
                        have zh15 := rhne h15 (n := 6) (by decide)
                        have zh17 := rhne h17 (n := 7) (by decide)
                        have zh19 := rhne h19 (n := 8) (by decide)
                        have zh21 := rhne h21 (n := 9) (by decide)
                        have zh25 := rhne h25 (n := 10) (by decide)
                        refine rhF.tsOut (pc := 1) 120 dX12_about_1 (by omega) (by decide) ?_
                        refine rhF.iconst (pc := 120) (v := (-1)) dX12_about_120 (by decide) ?_
                        exact rhF.zret (pc := 121) dX12_about_121 rfl rfl rfl
theorem c_X12_about (E : rhE) (Γ : rhG) (M : rhM) (v0 : Nat) (v1 : Int32) : ∀ a, f_X12_about Γ M v0 v1 = some a → rhC E 5 yX12_about cX12_about 2 (some .int) [rhR v0, rhI v1] Γ M ((rhe0I Γ M) a) := rhF.met (by decide +kernel) (Nat.le_of_ble_eq_true rfl) (b_X12_about v0 v1)
def f_X12_isWord (Γ : rhG) (M : rhM) (v0 : Nat) (v1 : Int64) : Option (Int32) :=
  rhck (Γ.2.2.1 v0 = 13) <|
  if (M.1 v0 8) = 3 then
    (if (M.2.1 v0 10) = v1 then
      (some 1)
    else
      some 0)
  else
    some 0
set_option maxHeartbeats 4000000 in
set_option maxRecDepth 100000 in
theorem b_X12_isWord {E : rhE} {Γ : rhG} {M : rhM} : ∀ (v0 : Nat) (v1 : Int64), rhF E 1 3 yX12_isWord cX12_isWord (some .boolean) Γ (rhe0I Γ M) (f_X12_isWord Γ M v0 v1) 0 [(0, rhR v0), (1, rhJ v1)] [] Γ M := by
  intro v0 v1
  rw [f_X12_isWord]
  refine rhF.aload_n (pc := 0) dX12_isWord_0 0 rfl ?_
  refine rhF.ck (fun h1 => ?_)
  refine rhF.get (pc := 1) (rhI _) dX12_isWord_1 fl_X12_266 h1 rfl ?_
  refine rhF.iconst (pc := 4) (v := 3) dX12_isWord_4 (by decide) ?_
  refine rhF.icmp_ne (pc := 5) 21 dX12_isWord_5 (by decide) (fun h2 => ?_) (fun h2 => ?_)
  · refine rhF.aload_n (pc := 8) dX12_isWord_8 0 rfl ?_
    refine rhF.get (pc := 9) (rhJ _) dX12_isWord_9 fl_X12_273 h1 rfl ?_
    refine rhF.lload_n (pc := 12) dX12_isWord_12 1 rfl ?_
    refine rhF.lcne (pc := 13) 21 dX12_isWord_13 dX12_isWord_14 (by decide) (fun h3 => ?_) (fun h3 => ?_)
    · refine rhF.iconst (pc := 17) (v := 1) dX12_isWord_17 (by decide) ?_
      refine rhF.goto (pc := 18) 22 dX12_isWord_18 (by decide) ?_
      exact rhF.zret (pc := 22) dX12_isWord_22 rfl rfl rfl
    · refine rhF.iconst (pc := 21) (v := 0) dX12_isWord_21 (by decide) ?_
      exact rhF.zret (pc := 22) dX12_isWord_22 rfl rfl rfl
  · refine rhF.iconst (pc := 21) (v := 0) dX12_isWord_21 (by decide) ?_
    exact rhF.zret (pc := 22) dX12_isWord_22 rfl rfl rfl
theorem c_X12_isWord (E : rhE) (Γ : rhG) (M : rhM) (v0 : Nat) (v1 : Int64) : ∀ a, f_X12_isWord Γ M v0 v1 = some a → rhC E 1 yX12_isWord cX12_isWord 3 (some .boolean) [rhR v0, rhJ v1] Γ M ((rhe0I Γ M) a) := rhF.met (by decide +kernel) (Nat.le_of_ble_eq_true rfl) (b_X12_isWord v0 v1)
def f_X12_isDigit (Γ : rhG) (M : rhM) (v0 : Int32) : Option (Int32) :=
  if v0 < 48 then
    (some 0)
  else
    if 57 < v0 then
      (some 0)
    else
      some 1
set_option maxHeartbeats 4000000 in
set_option maxRecDepth 100000 in
theorem b_X12_isDigit {E : rhE} {Γ : rhG} {M : rhM} : ∀ (v0 : Int32), rhF E 1 1 yX12_isDigit cX12_isDigit (some .boolean) Γ (rhe0I Γ M) (f_X12_isDigit Γ M v0) 0 [(0, rhI v0)] [] Γ M := by
  intro v0
  rw [f_X12_isDigit]
  refine rhF.iload_n (pc := 0) dX12_isDigit_0 0 rfl ?_
  refine rhF.bipush (pc := 1) (v := 48) dX12_isDigit_1 (by decide) ?_
  refine rhF.icmp_lt (pc := 3) 16 dX12_isDigit_3 (by decide) (fun h1 => ?_) (fun h1 => ?_)
  · refine rhF.iconst (pc := 16) (v := 0) dX12_isDigit_16 (by decide) ?_
    exact rhF.zret (pc := 17) dX12_isDigit_17 rfl rfl rfl
  · refine rhF.iload_n (pc := 6) dX12_isDigit_6 0 rfl ?_
    refine rhF.bipush (pc := 7) (v := 57) dX12_isDigit_7 (by decide) ?_
    refine rhF.icmp_gt (pc := 9) 16 dX12_isDigit_9 (by decide) (fun h2 => ?_) (fun h2 => ?_)
    · refine rhF.iconst (pc := 16) (v := 0) dX12_isDigit_16 (by decide) ?_
      exact rhF.zret (pc := 17) dX12_isDigit_17 rfl rfl rfl
    · refine rhF.iconst (pc := 12) (v := 1) dX12_isDigit_12 (by decide) ?_
      refine rhF.goto (pc := 13) 17 dX12_isDigit_13 (by decide) ?_
      exact rhF.zret (pc := 17) dX12_isDigit_17 rfl rfl rfl
theorem c_X12_isDigit (E : rhE) (Γ : rhG) (M : rhM) (v0 : Int32) : ∀ a, f_X12_isDigit Γ M v0 = some a → rhC E 1 yX12_isDigit cX12_isDigit 1 (some .boolean) [rhI v0] Γ M ((rhe0I Γ M) a) := rhF.met (by decide +kernel) (Nat.le_of_ble_eq_true rfl) (b_X12_isDigit v0)
def f_X12_isKept_72 (k77 : Int64 → Int32 → Option (Int32)) (Γ : rhG) (M : rhM) (v0 : Int64) : Option (Int32) :=
  k77 v0 1
def f_X12_isKept_77 (Γ : rhG) (M : rhM) (v0 : Int64) (s0 : Int32) : Option (Int32) :=
  if s0 = 0 then
    (if v0 = ((7102839 : Int64)) then
      (some 1)
    else
      if v0 = ((1835101817 : Int64)) then
        (some 1)
      else
        if v0 = ((1718775661 : Int64)) then
          (some 1)
        else
          if v0 = ((29807 : Int64)) then
            (some 1)
          else
            if v0 = ((1919905645 : Int64)) then
              (some 1)
            else
              if v0 = ((499850634611 : Int64)) then
                (some 1)
              else
                if v0 = ((6385252 : Int64)) then
                  (some 1)
                else
                  if v0 = ((28530 : Int64)) then
                    (some 1)
                  else
                    if v0 = ((7237492 : Int64)) then
                      (some 1)
                    else
                      some 0)
  else
    some 1
def f_X12_isKept (Γ : rhG) (M : rhM) (v0 : Int64) : Option (Int32) :=
  if v0 = ((1918986604 : Int64)) then
    (f_X12_isKept_72 (f_X12_isKept_77 Γ M) Γ M v0)
  else
    if v0 = ((119182899770472 : Int64)) then
      (f_X12_isKept_72 (f_X12_isKept_77 Γ M) Γ M v0)
    else
      if v0 = ((448546567013 : Int64)) then
        (f_X12_isKept_72 (f_X12_isKept_77 Γ M) Γ M v0)
      else
        if v0 = ((131277443786868 : Int64)) then
          (f_X12_isKept_72 (f_X12_isKept_77 Γ M) Γ M v0)
        else
          if v0 = ((28526 : Int64)) then
            (f_X12_isKept_72 (f_X12_isKept_77 Γ M) Γ M v0)
          else
            if v0 = ((108187867505765 : Int64)) then
              (f_X12_isKept_72 (f_X12_isKept_77 Γ M) Γ M v0)
            else
              if v0 = ((512970880104 : Int64)) then
                (f_X12_isKept_72 (f_X12_isKept_77 Γ M) Γ M v0)
              else
                if v0 = ((1852138347 : Int64)) then
                  (f_X12_isKept_72 (f_X12_isKept_77 Γ M) Γ M v0)
                else
                  if v0 = ((431415719795 : Int64)) then
                    (f_X12_isKept_72 (f_X12_isKept_77 Γ M) Γ M v0)
                  else
                    f_X12_isKept_77 Γ M v0 0
set_option maxHeartbeats 4000000 in
set_option maxRecDepth 100000 in
theorem b_X12_isKept_72 {E : rhE} {Γ : rhG} {M : rhM} {k77 : Int64 → Int32 → Option (Int32)} (hk77 : ∀ (v0 : Int64) (s0 : Int32), rhF E 1 3 yX12_isKept cX12_isKept (some .boolean) Γ (rhe0I Γ M) (k77 v0 s0) 77 [(0, rhJ v0)] [rhI s0] Γ M) : ∀ (v0 : Int64), rhF E 1 3 yX12_isKept cX12_isKept (some .boolean) Γ (rhe0I Γ M) (f_X12_isKept_72 k77 Γ M v0) 72 [(0, rhJ v0)] [] Γ M := by
  intro v0
  rw [f_X12_isKept_72]
  refine rhF.iconst (pc := 72) (v := 1) dX12_isKept_72 (by decide) ?_
  refine rhF.goto (pc := 73) 77 dX12_isKept_73 (by decide) ?_
  exact hk77 _ _
set_option maxHeartbeats 4000000 in
set_option maxRecDepth 100000 in
theorem b_X12_isKept_77 {E : rhE} {Γ : rhG} {M : rhM} : ∀ (v0 : Int64) (s0 : Int32), rhF E 1 3 yX12_isKept cX12_isKept (some .boolean) Γ (rhe0I Γ M) (f_X12_isKept_77 Γ M v0 s0) 77 [(0, rhJ v0)] [rhI s0] Γ M := by
  intro v0 s0
  rw [f_X12_isKept_77]
  refine rhF.istore_n (pc := 77) (L' := [(2, rhI _), (0, rhJ _)]) dX12_isKept_77 (by decide) rfl ?_
  refine rhF.iload_n (pc := 78) dX12_isKept_78 0 rfl ?_
  refine rhF.if_ne (pc := 79) 154 dX12_isKept_79 (by decide) (fun h2 => ?_) (fun h2 => ?_)
  · refine rhF.lload_n (pc := 82) dX12_isKept_82 1 rfl ?_
    refine rhF.ldc2 (pc := 83) dX12_isKept_83 k_X12_238 ?_
    refine rhF.lceq (pc := 86) 154 dX12_isKept_86 dX12_isKept_87 (by decide) (fun h3 => ?_) (fun h3 => ?_)
    · refine rhF.iconst (pc := 154) (v := 1) dX12_isKept_154 (by decide) ?_
      refine rhF.goto (pc := 155) 159 dX12_isKept_155 (by decide) ?_
      exact rhF.zret (pc := 159) dX12_isKept_159 rfl rfl rfl
    · refine rhF.lload_n (pc := 90) dX12_isKept_90 1 rfl ?_
      refine rhF.ldc2 (pc := 91) dX12_isKept_91 k_X12_240 ?_
      refine rhF.lceq (pc := 94) 154 dX12_isKept_94 dX12_isKept_95 (by decide) (fun h4 => ?_) (fun h4 => ?_)
      · refine rhF.iconst (pc := 154) (v := 1) dX12_isKept_154 (by decide) ?_
        refine rhF.goto (pc := 155) 159 dX12_isKept_155 (by decide) ?_
        exact rhF.zret (pc := 159) dX12_isKept_159 rfl rfl rfl
      · refine rhF.lload_n (pc := 98) dX12_isKept_98 1 rfl ?_
        refine rhF.ldc2 (pc := 99) dX12_isKept_99 k_X12_242 ?_
        refine rhF.lceq (pc := 102) 154 dX12_isKept_102 dX12_isKept_103 (by decide) (fun h5 => ?_) (fun h5 => ?_)
        · refine rhF.iconst (pc := 154) (v := 1) dX12_isKept_154 (by decide) ?_
          refine rhF.goto (pc := 155) 159 dX12_isKept_155 (by decide) ?_
          exact rhF.zret (pc := 159) dX12_isKept_159 rfl rfl rfl
        · refine rhF.lload_n (pc := 106) dX12_isKept_106 1 rfl ?_
          refine rhF.ldc2 (pc := 107) dX12_isKept_107 k_X12_244 ?_
          refine rhF.lceq (pc := 110) 154 dX12_isKept_110 dX12_isKept_111 (by decide) (fun h6 => ?_) (fun h6 => ?_)
          · refine rhF.iconst (pc := 154) (v := 1) dX12_isKept_154 (by decide) ?_
            refine rhF.goto (pc := 155) 159 dX12_isKept_155 (by decide) ?_
            exact rhF.zret (pc := 159) dX12_isKept_159 rfl rfl rfl
          · refine rhF.lload_n (pc := 114) dX12_isKept_114 1 rfl ?_
            refine rhF.ldc2 (pc := 115) dX12_isKept_115 k_X12_246 ?_
            refine rhF.lceq (pc := 118) 154 dX12_isKept_118 dX12_isKept_119 (by decide) (fun h7 => ?_) (fun h7 => ?_)
            · refine rhF.iconst (pc := 154) (v := 1) dX12_isKept_154 (by decide) ?_
              refine rhF.goto (pc := 155) 159 dX12_isKept_155 (by decide) ?_
              exact rhF.zret (pc := 159) dX12_isKept_159 rfl rfl rfl
            · refine rhF.lload_n (pc := 122) dX12_isKept_122 1 rfl ?_
              refine rhF.ldc2 (pc := 123) dX12_isKept_123 k_X12_248 ?_
              refine rhF.lceq (pc := 126) 154 dX12_isKept_126 dX12_isKept_127 (by decide) (fun h8 => ?_) (fun h8 => ?_)
              · refine rhF.iconst (pc := 154) (v := 1) dX12_isKept_154 (by decide) ?_
                refine rhF.goto (pc := 155) 159 dX12_isKept_155 (by decide) ?_
                exact rhF.zret (pc := 159) dX12_isKept_159 rfl rfl rfl
              · refine rhF.lload_n (pc := 130) dX12_isKept_130 1 rfl ?_
                refine rhF.ldc2 (pc := 131) dX12_isKept_131 k_X12_250 ?_
                refine rhF.lceq (pc := 134) 154 dX12_isKept_134 dX12_isKept_135 (by decide) (fun h9 => ?_) (fun h9 => ?_)
                · refine rhF.iconst (pc := 154) (v := 1) dX12_isKept_154 (by decide) ?_
                  refine rhF.goto (pc := 155) 159 dX12_isKept_155 (by decide) ?_
                  exact rhF.zret (pc := 159) dX12_isKept_159 rfl rfl rfl
                · refine rhF.lload_n (pc := 138) dX12_isKept_138 1 rfl ?_
                  refine rhF.ldc2 (pc := 139) dX12_isKept_139 k_X12_252 ?_
                  refine rhF.lceq (pc := 142) 154 dX12_isKept_142 dX12_isKept_143 (by decide) (fun h10 => ?_) (fun h10 => ?_)
                  · refine rhF.iconst (pc := 154) (v := 1) dX12_isKept_154 (by decide) ?_
                    refine rhF.goto (pc := 155) 159 dX12_isKept_155 (by decide) ?_
                    exact rhF.zret (pc := 159) dX12_isKept_159 rfl rfl rfl
                  · refine rhF.lload_n (pc := 146) dX12_isKept_146 1 rfl ?_
                    refine rhF.ldc2 (pc := 147) dX12_isKept_147 k_X12_254 ?_
                    refine rhF.lcne (pc := 150) 158 dX12_isKept_150 dX12_isKept_151 (by decide) (fun h11 => ?_) (fun h11 => ?_)
                    · refine rhF.iconst (pc := 154) (v := 1) dX12_isKept_154 (by decide) ?_
                      refine rhF.goto (pc := 155) 159 dX12_isKept_155 (by decide) ?_
                      exact rhF.zret (pc := 159) dX12_isKept_159 rfl rfl rfl
                    · refine rhF.iconst (pc := 158) (v := 0) dX12_isKept_158 (by decide) ?_
                      exact rhF.zret (pc := 159) dX12_isKept_159 rfl rfl rfl
  · refine rhF.iconst (pc := 154) (v := 1) dX12_isKept_154 (by decide) ?_
    refine rhF.goto (pc := 155) 159 dX12_isKept_155 (by decide) ?_
    exact rhF.zret (pc := 159) dX12_isKept_159 rfl rfl rfl
set_option maxHeartbeats 4000000 in
set_option maxRecDepth 100000 in
theorem b_X12_isKept {E : rhE} {Γ : rhG} {M : rhM} : ∀ (v0 : Int64), rhF E 1 3 yX12_isKept cX12_isKept (some .boolean) Γ (rhe0I Γ M) (f_X12_isKept Γ M v0) 0 [(0, rhJ v0)] [] Γ M := by
  intro v0
  rw [f_X12_isKept]
  refine rhF.lload_n (pc := 0) dX12_isKept_0 0 rfl ?_
  refine rhF.ldc2 (pc := 1) dX12_isKept_1 k_X12_220 ?_
  refine rhF.lceq (pc := 4) 72 dX12_isKept_4 dX12_isKept_5 (by decide) (fun h1 => ?_) (fun h1 => ?_)
  · exact (b_X12_isKept_72 (b_X12_isKept_77)) _
  · refine rhF.lload_n (pc := 8) dX12_isKept_8 0 rfl ?_
    refine rhF.ldc2 (pc := 9) dX12_isKept_9 k_X12_222 ?_
    refine rhF.lceq (pc := 12) 72 dX12_isKept_12 dX12_isKept_13 (by decide) (fun h12 => ?_) (fun h12 => ?_)
    · exact (b_X12_isKept_72 (b_X12_isKept_77)) _
    · refine rhF.lload_n (pc := 16) dX12_isKept_16 0 rfl ?_
      refine rhF.ldc2 (pc := 17) dX12_isKept_17 k_X12_224 ?_
      refine rhF.lceq (pc := 20) 72 dX12_isKept_20 dX12_isKept_21 (by decide) (fun h13 => ?_) (fun h13 => ?_)
      · exact (b_X12_isKept_72 (b_X12_isKept_77)) _
      · refine rhF.lload_n (pc := 24) dX12_isKept_24 0 rfl ?_
        refine rhF.ldc2 (pc := 25) dX12_isKept_25 k_X12_226 ?_
        refine rhF.lceq (pc := 28) 72 dX12_isKept_28 dX12_isKept_29 (by decide) (fun h14 => ?_) (fun h14 => ?_)
        · exact (b_X12_isKept_72 (b_X12_isKept_77)) _
        · refine rhF.lload_n (pc := 32) dX12_isKept_32 0 rfl ?_
          refine rhF.ldc2 (pc := 33) dX12_isKept_33 k_X12_228 ?_
          refine rhF.lceq (pc := 36) 72 dX12_isKept_36 dX12_isKept_37 (by decide) (fun h15 => ?_) (fun h15 => ?_)
          · exact (b_X12_isKept_72 (b_X12_isKept_77)) _
          · refine rhF.lload_n (pc := 40) dX12_isKept_40 0 rfl ?_
            refine rhF.ldc2 (pc := 41) dX12_isKept_41 k_X12_230 ?_
            refine rhF.lceq (pc := 44) 72 dX12_isKept_44 dX12_isKept_45 (by decide) (fun h16 => ?_) (fun h16 => ?_)
            · exact (b_X12_isKept_72 (b_X12_isKept_77)) _
            · refine rhF.lload_n (pc := 48) dX12_isKept_48 0 rfl ?_
              refine rhF.ldc2 (pc := 49) dX12_isKept_49 k_X12_232 ?_
              refine rhF.lceq (pc := 52) 72 dX12_isKept_52 dX12_isKept_53 (by decide) (fun h17 => ?_) (fun h17 => ?_)
              · exact (b_X12_isKept_72 (b_X12_isKept_77)) _
              · refine rhF.lload_n (pc := 56) dX12_isKept_56 0 rfl ?_
                refine rhF.ldc2 (pc := 57) dX12_isKept_57 k_X12_234 ?_
                refine rhF.lceq (pc := 60) 72 dX12_isKept_60 dX12_isKept_61 (by decide) (fun h18 => ?_) (fun h18 => ?_)
                · exact (b_X12_isKept_72 (b_X12_isKept_77)) _
                · refine rhF.lload_n (pc := 64) dX12_isKept_64 0 rfl ?_
                  refine rhF.ldc2 (pc := 65) dX12_isKept_65 k_X12_236 ?_
                  refine rhF.lcne (pc := 68) 76 dX12_isKept_68 dX12_isKept_69 (by decide) (fun h19 => ?_) (fun h19 => ?_)
                  · exact (b_X12_isKept_72 (b_X12_isKept_77)) _
                  · refine rhF.iconst (pc := 76) (v := 0) dX12_isKept_76 (by decide) ?_
                    exact (b_X12_isKept_77) _ _
theorem c_X12_isKept (E : rhE) (Γ : rhG) (M : rhM) (v0 : Int64) : ∀ a, f_X12_isKept Γ M v0 = some a → rhC E 1 yX12_isKept cX12_isKept 3 (some .boolean) [rhJ v0] Γ M ((rhe0I Γ M) a) := rhF.met (by decide +kernel) (Nat.le_of_ble_eq_true rfl) (b_X12_isKept v0)
def f_X12_isLetter (Γ : rhG) (M : rhM) (v0 : Int32) : Option (Int32) :=
  if v0 < 97 then
    (some 0)
  else
    if 122 < v0 then
      (some 0)
    else
      some 1
set_option maxHeartbeats 4000000 in
set_option maxRecDepth 100000 in
theorem b_X12_isLetter {E : rhE} {Γ : rhG} {M : rhM} : ∀ (v0 : Int32), rhF E 1 1 yX12_isLetter cX12_isLetter (some .boolean) Γ (rhe0I Γ M) (f_X12_isLetter Γ M v0) 0 [(0, rhI v0)] [] Γ M := by
  intro v0
  rw [f_X12_isLetter]
  refine rhF.iload_n (pc := 0) dX12_isLetter_0 0 rfl ?_
  refine rhF.bipush (pc := 1) (v := 97) dX12_isLetter_1 (by decide) ?_
  refine rhF.icmp_lt (pc := 3) 16 dX12_isLetter_3 (by decide) (fun h1 => ?_) (fun h1 => ?_)
  · refine rhF.iconst (pc := 16) (v := 0) dX12_isLetter_16 (by decide) ?_
    exact rhF.zret (pc := 17) dX12_isLetter_17 rfl rfl rfl
  · refine rhF.iload_n (pc := 6) dX12_isLetter_6 0 rfl ?_
    refine rhF.bipush (pc := 7) (v := 122) dX12_isLetter_7 (by decide) ?_
    refine rhF.icmp_gt (pc := 9) 16 dX12_isLetter_9 (by decide) (fun h2 => ?_) (fun h2 => ?_)
    · refine rhF.iconst (pc := 16) (v := 0) dX12_isLetter_16 (by decide) ?_
      exact rhF.zret (pc := 17) dX12_isLetter_17 rfl rfl rfl
    · refine rhF.iconst (pc := 12) (v := 1) dX12_isLetter_12 (by decide) ?_
      refine rhF.goto (pc := 13) 17 dX12_isLetter_13 (by decide) ?_
      exact rhF.zret (pc := 17) dX12_isLetter_17 rfl rfl rfl
theorem c_X12_isLetter (E : rhE) (Γ : rhG) (M : rhM) (v0 : Int32) : ∀ a, f_X12_isLetter Γ M v0 = some a → rhC E 1 yX12_isLetter cX12_isLetter 1 (some .boolean) [rhI v0] Γ M ((rhe0I Γ M) a) := rhF.met (by decide +kernel) (Nat.le_of_ble_eq_true rfl) (b_X12_isLetter v0)
def f_X12_isSign (Γ : rhG) (M : rhM) (v0 : Int32) : Option (Int32) :=
  if v0 = 59 then
    (some 1)
  else
    if v0 = 40 then
      (some 1)
    else
      if v0 = 41 then
        (some 1)
      else
        if v0 = 60 then
          (some 1)
        else
          if v0 = 62 then
            (some 1)
          else
            if v0 = 61 then
              (some 1)
            else
              if v0 = 43 then
                (some 1)
              else
                if v0 = 45 then
                  (some 1)
                else
                  if v0 = 42 then
                    (some 1)
                  else
                    if v0 = 47 then
                      (some 1)
                    else
                      some 0
set_option maxHeartbeats 4000000 in
set_option maxRecDepth 100000 in
theorem b_X12_isSign {E : rhE} {Γ : rhG} {M : rhM} : ∀ (v0 : Int32), rhF E 1 1 yX12_isSign cX12_isSign (some .boolean) Γ (rhe0I Γ M) (f_X12_isSign Γ M v0) 0 [(0, rhI v0)] [] Γ M := by
  intro v0
  rw [f_X12_isSign]
  refine rhF.iload_n (pc := 0) dX12_isSign_0 0 rfl ?_
  refine rhF.bipush (pc := 1) (v := 59) dX12_isSign_1 (by decide) ?_
  refine rhF.icmp_eq (pc := 3) 60 dX12_isSign_3 (by decide) (fun h1 => ?_) (fun h1 => ?_)
  · refine rhF.iconst (pc := 60) (v := 1) dX12_isSign_60 (by decide) ?_
    refine rhF.goto (pc := 61) 65 dX12_isSign_61 (by decide) ?_
    exact rhF.zret (pc := 65) dX12_isSign_65 rfl rfl rfl
  · refine rhF.iload_n (pc := 6) dX12_isSign_6 0 rfl ?_
    refine rhF.bipush (pc := 7) (v := 40) dX12_isSign_7 (by decide) ?_
    refine rhF.icmp_eq (pc := 9) 60 dX12_isSign_9 (by decide) (fun h2 => ?_) (fun h2 => ?_)
    · refine rhF.iconst (pc := 60) (v := 1) dX12_isSign_60 (by decide) ?_
      refine rhF.goto (pc := 61) 65 dX12_isSign_61 (by decide) ?_
      exact rhF.zret (pc := 65) dX12_isSign_65 rfl rfl rfl
    · refine rhF.iload_n (pc := 12) dX12_isSign_12 0 rfl ?_
      refine rhF.bipush (pc := 13) (v := 41) dX12_isSign_13 (by decide) ?_
      refine rhF.icmp_eq (pc := 15) 60 dX12_isSign_15 (by decide) (fun h3 => ?_) (fun h3 => ?_)
      · refine rhF.iconst (pc := 60) (v := 1) dX12_isSign_60 (by decide) ?_
        refine rhF.goto (pc := 61) 65 dX12_isSign_61 (by decide) ?_
        exact rhF.zret (pc := 65) dX12_isSign_65 rfl rfl rfl
      · refine rhF.iload_n (pc := 18) dX12_isSign_18 0 rfl ?_
        refine rhF.bipush (pc := 19) (v := 60) dX12_isSign_19 (by decide) ?_
        refine rhF.icmp_eq (pc := 21) 60 dX12_isSign_21 (by decide) (fun h4 => ?_) (fun h4 => ?_)
        · refine rhF.iconst (pc := 60) (v := 1) dX12_isSign_60 (by decide) ?_
          refine rhF.goto (pc := 61) 65 dX12_isSign_61 (by decide) ?_
          exact rhF.zret (pc := 65) dX12_isSign_65 rfl rfl rfl
        · refine rhF.iload_n (pc := 24) dX12_isSign_24 0 rfl ?_
          refine rhF.bipush (pc := 25) (v := 62) dX12_isSign_25 (by decide) ?_
          refine rhF.icmp_eq (pc := 27) 60 dX12_isSign_27 (by decide) (fun h5 => ?_) (fun h5 => ?_)
          · refine rhF.iconst (pc := 60) (v := 1) dX12_isSign_60 (by decide) ?_
            refine rhF.goto (pc := 61) 65 dX12_isSign_61 (by decide) ?_
            exact rhF.zret (pc := 65) dX12_isSign_65 rfl rfl rfl
          · refine rhF.iload_n (pc := 30) dX12_isSign_30 0 rfl ?_
            refine rhF.bipush (pc := 31) (v := 61) dX12_isSign_31 (by decide) ?_
            refine rhF.icmp_eq (pc := 33) 60 dX12_isSign_33 (by decide) (fun h6 => ?_) (fun h6 => ?_)
            · refine rhF.iconst (pc := 60) (v := 1) dX12_isSign_60 (by decide) ?_
              refine rhF.goto (pc := 61) 65 dX12_isSign_61 (by decide) ?_
              exact rhF.zret (pc := 65) dX12_isSign_65 rfl rfl rfl
            · refine rhF.iload_n (pc := 36) dX12_isSign_36 0 rfl ?_
              refine rhF.bipush (pc := 37) (v := 43) dX12_isSign_37 (by decide) ?_
              refine rhF.icmp_eq (pc := 39) 60 dX12_isSign_39 (by decide) (fun h7 => ?_) (fun h7 => ?_)
              · refine rhF.iconst (pc := 60) (v := 1) dX12_isSign_60 (by decide) ?_
                refine rhF.goto (pc := 61) 65 dX12_isSign_61 (by decide) ?_
                exact rhF.zret (pc := 65) dX12_isSign_65 rfl rfl rfl
              · refine rhF.iload_n (pc := 42) dX12_isSign_42 0 rfl ?_
                refine rhF.bipush (pc := 43) (v := 45) dX12_isSign_43 (by decide) ?_
                refine rhF.icmp_eq (pc := 45) 60 dX12_isSign_45 (by decide) (fun h8 => ?_) (fun h8 => ?_)
                · refine rhF.iconst (pc := 60) (v := 1) dX12_isSign_60 (by decide) ?_
                  refine rhF.goto (pc := 61) 65 dX12_isSign_61 (by decide) ?_
                  exact rhF.zret (pc := 65) dX12_isSign_65 rfl rfl rfl
                · refine rhF.iload_n (pc := 48) dX12_isSign_48 0 rfl ?_
                  refine rhF.bipush (pc := 49) (v := 42) dX12_isSign_49 (by decide) ?_
                  refine rhF.icmp_eq (pc := 51) 60 dX12_isSign_51 (by decide) (fun h9 => ?_) (fun h9 => ?_)
                  · refine rhF.iconst (pc := 60) (v := 1) dX12_isSign_60 (by decide) ?_
                    refine rhF.goto (pc := 61) 65 dX12_isSign_61 (by decide) ?_
                    exact rhF.zret (pc := 65) dX12_isSign_65 rfl rfl rfl
                  · refine rhF.iload_n (pc := 54) dX12_isSign_54 0 rfl ?_
                    refine rhF.bipush (pc := 55) (v := 47) dX12_isSign_55 (by decide) ?_
                    refine rhF.icmp_ne (pc := 57) 64 dX12_isSign_57 (by decide) (fun h10 => ?_) (fun h10 => ?_)
                    · refine rhF.iconst (pc := 60) (v := 1) dX12_isSign_60 (by decide) ?_
                      refine rhF.goto (pc := 61) 65 dX12_isSign_61 (by decide) ?_
                      exact rhF.zret (pc := 65) dX12_isSign_65 rfl rfl rfl
                    · refine rhF.iconst (pc := 64) (v := 0) dX12_isSign_64 (by decide) ?_
                      exact rhF.zret (pc := 65) dX12_isSign_65 rfl rfl rfl
theorem c_X12_isSign (E : rhE) (Γ : rhG) (M : rhM) (v0 : Int32) : ∀ a, f_X12_isSign Γ M v0 = some a → rhC E 1 yX12_isSign cX12_isSign 1 (some .boolean) [rhI v0] Γ M ((rhe0I Γ M) a) := rhF.met (by decide +kernel) (Nat.le_of_ble_eq_true rfl) (b_X12_isSign v0)
def f_X12_sign (Γ : rhG) (M : rhM) (v0 : Nat) (v1 : Int32) : Option (Int32) :=
  rhck (Γ.2.2.1 v0 = 13) <|
  if v1 < (M.1 v0 3) then
    (rhck (Γ.2.2.1 (M.2.2 v0 1) = 14) <|
    rhck (0 ≤ (v1).toInt ∧ (v1).toInt < (Γ.2.2.2 (M.2.2 v0 1) : Nat)) <|
    some ((M.1 (M.2.2 v0 1) v1.toNatClampNeg) &&& 255))
  else
    some 0
set_option maxHeartbeats 4000000 in
set_option maxRecDepth 100000 in
theorem b_X12_sign {E : rhE} {Γ : rhG} {M : rhM} : ∀ (v0 : Nat) (v1 : Int32), rhF E 1 2 yX12_sign cX12_sign (some .int) Γ (rhe0I Γ M) (f_X12_sign Γ M v0 v1) 0 [(0, rhR v0), (1, rhI v1)] [] Γ M := by
  intro v0 v1
  rw [f_X12_sign]
  refine rhF.iload_n (pc := 0) dX12_sign_0 1 rfl ?_
  refine rhF.aload_n (pc := 1) dX12_sign_1 0 rfl ?_
  refine rhF.ck (fun h1 => ?_)
  refine rhF.get (pc := 2) (rhI _) dX12_sign_2 fl_X12_214 h1 rfl ?_
  refine rhF.icmp_ge (pc := 5) 21 dX12_sign_5 (by decide) (fun h2 => ?_) (fun h2 => ?_)
  · refine rhF.aload_n (pc := 8) dX12_sign_8 0 rfl ?_
    refine rhF.get (pc := 9) (rhR _) dX12_sign_9 fl_X12_13 h1 rfl ?_
    refine rhF.iload_n (pc := 12) dX12_sign_12 1 rfl ?_
    refine rhF.ck (fun h3 => ?_)
    refine rhF.ck (fun h4 => ?_)
    refine rhF.bald (pc := 13) dX12_sign_13 h3 h4 ?_
    refine rhF.sipush (pc := 14) (v := 255) dX12_sign_14 (by decide) ?_
    refine rhF.iand (pc := 17) dX12_sign_17 ?_
    refine rhF.goto (pc := 18) 22 dX12_sign_18 (by decide) ?_
    exact rhF.zret (pc := 22) dX12_sign_22 rfl rfl rfl
  · refine rhF.iconst (pc := 21) (v := 0) dX12_sign_21 (by decide) ?_
    exact rhF.zret (pc := 22) dX12_sign_22 rfl rfl rfl
theorem c_X12_sign (E : rhE) (Γ : rhG) (M : rhM) (v0 : Nat) (v1 : Int32) : ∀ a, f_X12_sign Γ M v0 v1 = some a → rhC E 1 yX12_sign cX12_sign 2 (some .int) [rhR v0, rhI v1] Γ M ((rhe0I Γ M) a) := rhF.met (by decide +kernel) (Nat.le_of_ble_eq_true rfl) (b_X12_sign v0 v1)
def f_X12_goOn_45 (k8 : rhM → Nat → Option (rhM)) (Γ : rhG) (M : rhM) (v0 : Nat) : Option (rhM) :=
  rhck (Γ.2.2.1 v0 = 13) <|
  let M8 := rhsi M v0 6 ((M.1 v0 6) + 1)
  k8 M8 v0
def f_X12_goOn_8 (k58 : rhM → Nat → Option (rhM)) (Γ : rhG) : Nat → rhM → Nat → Option (rhM)
  | 0, _, _ => none
  | n + 1, M, v0 =>
    rhck (Γ.2.2.1 v0 = 13) <|
    if (M.1 v0 6) < (M.1 v0 3) then
      ((f_X12_sign Γ M v0 (M.1 v0 6)).bind fun r5 =>
      if r5 = 32 then
        (f_X12_goOn_45 (f_X12_goOn_8 k58 Γ n) Γ M v0)
      else
        (f_X12_sign Γ M v0 (M.1 v0 6)).bind fun r9 =>
        if r9 = 10 then
          (f_X12_goOn_45 (f_X12_goOn_8 k58 Γ n) Γ M v0)
        else
          k58 M v0)
    else
      k58 M v0
def f_X12_goOn_374 (Γ : rhG) (M : rhM) (s0 : Nat) (s1 : Int32) : Option (rhM) :=
  rhck (Γ.2.2.1 s0 = 13) <|
  let M22 := rhsi M s0 8 s1
  some M22
def f_X12_goOn_309 (k259 : rhM → Nat → Option (rhM)) (Γ : rhG) (M : rhM) (v0 : Nat) : Option (rhM) :=
  rhck (Γ.2.2.1 v0 = 13) <|
  let M33 := rhsi M v0 7 ((M.1 v0 7) + 1)
  k259 M33 v0
def f_X12_goOn_259 (k322 : rhM → Nat → Option (rhM)) (Γ : rhG) : Nat → rhM → Nat → Option (rhM)
  | 0, _, _ => none
  | n + 1, M, v0 =>
    rhck (Γ.2.2.1 v0 = 13) <|
    (f_X12_sign Γ M v0 (M.1 v0 7)).bind fun r26 =>
    (f_X12_isDigit Γ M r26).bind fun r27 =>
    if r27 = 0 then
      (k322 M v0)
    else
      if ((M.1 v0 7) - (M.1 v0 6)) < 4 then
        ((f_X12_sign Γ M v0 (M.1 v0 7)).bind fun r30 =>
        let M31 := rhsi M v0 9 (((10 * (M.1 v0 9)) + r30) - 48)
        f_X12_goOn_309 (f_X12_goOn_259 k322 Γ n) Γ M31 v0)
      else
        f_X12_goOn_309 (f_X12_goOn_259 k322 Γ n) Γ M v0
def f_X12_goOn_350 (k355 : rhM → Nat → Int32 → Option (rhM)) (Γ : rhG) (M : rhM) (s0 : Nat) : Option (rhM) :=
  k355 M s0 1
def f_X12_goOn_355 (Γ : rhG) (M : rhM) (s0 : Nat) (s1 : Int32) : Option (rhM) :=
  rhck (Γ.2.2.1 s0 = 13) <|
  let M37 := rhsi M s0 8 s1
  some M37
def f_X12_goOn_322 (Γ : rhG) (M : rhM) (v0 : Nat) : Option (rhM) :=
  rhck (Γ.2.2.1 v0 = 13) <|
  if 4 < ((M.1 v0 7) - (M.1 v0 6)) then
    (f_X12_goOn_350 (f_X12_goOn_355 Γ) Γ M v0)
  else
    (f_X12_sign Γ M v0 (M.1 v0 7)).bind fun r38 =>
    (f_X12_isLetter Γ M r38).bind fun r39 =>
    if r39 = 0 then
      (f_X12_goOn_355 Γ M v0 4)
    else
      f_X12_goOn_350 (f_X12_goOn_355 Γ) Γ M v0
def f_X12_goOn_119 (k146 : rhM → Nat → Option (rhM)) (Γ : rhG) : Nat → rhM → Nat → Option (rhM)
  | 0, _, _ => none
  | n + 1, M, v0 =>
    rhck (Γ.2.2.1 v0 = 13) <|
    (f_X12_sign Γ M v0 (M.1 v0 7)).bind fun r42 =>
    (f_X12_isLetter Γ M r42).bind fun r43 =>
    if r43 = 0 then
      (k146 M v0)
    else
      let M45 := rhsi M v0 7 ((M.1 v0 7) + 1)
      f_X12_goOn_119 k146 Γ n M45 v0
def f_X12_goOn_156 (k199 : rhM → Nat → Option (rhM)) (Γ : rhG) : Nat → rhM → Nat → Int32 → Option (rhM)
  | 0, _, _, _ => none
  | n + 1, M, v0, v2 =>
    rhck (Γ.2.2.1 v0 = 13) <|
    if v2 < (M.1 v0 7) then
      (if v2 < ((M.1 v0 6) + 8) then
        ((f_X12_sign Γ M v0 v2).bind fun r52 =>
        let M53 := rhsl M v0 10 ((rhsh (M.2.1 v0 10) 8) ||| (Int32.toInt64 r52))
        let x54 : Int32 := v2 + 1
        f_X12_goOn_156 k199 Γ n M53 v0 x54)
      else
        k199 M v0)
    else
      k199 M v0
def f_X12_goOn_233 (Γ : rhG) (M : rhM) (s0 : Nat) (s1 : Int32) : Option (rhM) :=
  rhck (Γ.2.2.1 s0 = 13) <|
  let M58 := rhsi M s0 8 s1
  some M58
def f_X12_goOn_199 (Γ : rhG) (M : rhM) (v0 : Nat) : Option (rhM) :=
  rhck (Γ.2.2.1 v0 = 13) <|
  if 8 < ((M.1 v0 7) - (M.1 v0 6)) then
    (f_X12_goOn_233 Γ M v0 1)
  else
    (f_X12_isKept Γ M (M.2.1 v0 10)).bind fun r59 =>
    if r59 = 0 then
      (f_X12_goOn_233 Γ M v0 2)
    else
      f_X12_goOn_233 Γ M v0 3
def f_X12_goOn_146 (Γ : rhG) (M : rhM) (v0 : Nat) : Option (rhM) :=
  rhck (Γ.2.2.1 v0 = 13) <|
  let M47 := rhsl M v0 10 ((0 : Int64))
  let x48 := M.1 v0 6
  f_X12_goOn_156 (f_X12_goOn_199 Γ) Γ rhFU M47 v0 x48
def f_X12_goOn_58 (Γ : rhG) (M : rhM) (v0 : Nat) : Option (rhM) :=
  rhck (Γ.2.2.1 v0 = 13) <|
  (f_X12_sign Γ M v0 (M.1 v0 6)).bind fun r12 =>
  let M13 := rhsi M v0 7 ((M.1 v0 6) + 1)
  if (M13.1 v0 6) < (M13.1 v0 3) then
    ((f_X12_isLetter Γ M13 r12).bind fun r15 =>
    if r15 = 0 then
      ((f_X12_isDigit Γ M13 r12).bind fun r17 =>
      if r17 = 0 then
        ((f_X12_isSign Γ M13 r12).bind fun r19 =>
        if r19 = 0 then
          (f_X12_goOn_374 Γ M13 v0 1)
        else
          f_X12_goOn_374 Γ M13 v0 5)
      else
        let M23 := rhsi M13 v0 9 0
        let M24 := rhsi M23 v0 7 (M23.1 v0 6)
        f_X12_goOn_259 (f_X12_goOn_322 Γ) Γ rhFU M24 v0)
    else
      f_X12_goOn_119 (f_X12_goOn_146 Γ) Γ rhFU M13 v0)
  else
    let M61 := rhsi M13 v0 8 0
    let M62 := rhsi M61 v0 6 (M61.1 v0 3)
    let M63 := rhsi M62 v0 7 (M62.1 v0 3)
    some M63
def f_X12_goOn (Γ : rhG) (M : rhM) (v0 : Nat) : Option (rhM) :=
  rhck (Γ.2.2.1 v0 = 13) <|
  let M2 := rhsi M v0 6 (M.1 v0 7)
  f_X12_goOn_8 (f_X12_goOn_58 Γ) Γ rhFU M2 v0
set_option maxHeartbeats 4000000 in
set_option maxRecDepth 100000 in
theorem b_X12_goOn_45 {E : rhE} {Γ : rhG} {k8 : rhM → Nat → Option (rhM)} (hk8 : ∀ (M : rhM) (v0 : Nat), rhF E 5 3 yX12_goOn cX12_goOn none Γ (rhe1U Γ) (k8 M v0) 8 [(0, rhR v0)] [] Γ M) : ∀ (M : rhM) (v0 : Nat), rhF E 5 3 yX12_goOn cX12_goOn none Γ (rhe1U Γ) (f_X12_goOn_45 k8 Γ M v0) 45 [(0, rhR v0)] [] Γ M := by
  intro M v0
  rw [f_X12_goOn_45]
  refine rhF.aload_n (pc := 45) dX12_goOn_45 0 rfl ?_
  refine rhF.dupr (pc := 46) dX12_goOn_46 ?_
  refine rhF.ck (fun h7 => ?_)
  refine rhF.get (pc := 47) (rhI _) dX12_goOn_47 fl_X12_259 h7 rfl ?_
  refine rhF.iconst (pc := 50) (v := 1) dX12_goOn_50 (by decide) ?_
  refine rhF.iadd (pc := 51) dX12_goOn_51 ?_
  refine rhF.puti (pc := 52) dX12_goOn_52 fl_X12_259 h7 (fun q hq => by cases hq; exact Or.inl rfl) ⟨rfl, rfl⟩ (fun _ => rfl) ?_
  refine rhF.goto (pc := 55) 8 dX12_goOn_55 (by decide) ?_
  exact hk8 _ _
set_option maxHeartbeats 4000000 in
set_option maxRecDepth 100000 in
theorem b_X12_goOn_8 {E : rhE} {Γ : rhG} {k58 : rhM → Nat → Option (rhM)} (hk58 : ∀ (M : rhM) (v0 : Nat), rhF E 5 3 yX12_goOn cX12_goOn none Γ (rhe1U Γ) (k58 M v0) 58 [(0, rhR v0)] [] Γ M) : ∀ (n : Nat) (M : rhM) (v0 : Nat), rhF E 5 3 yX12_goOn cX12_goOn none Γ (rhe1U Γ) (f_X12_goOn_8 k58 Γ n M v0) 8 [(0, rhR v0)] [] Γ M := by
  intro n
  induction n with
  | zero => intro M v0; rw [f_X12_goOn_8]; exact rhF.nope
  | succ n ih =>
    intro M v0
    rw [f_X12_goOn_8]
    refine rhF.aload_n (pc := 8) dX12_goOn_8 0 rfl ?_
    refine rhF.ck (fun h3 => ?_)
    refine rhF.get (pc := 9) (rhI _) dX12_goOn_9 fl_X12_259 h3 rfl ?_
    refine rhF.aload_n (pc := 12) dX12_goOn_12 0 rfl ?_
    refine rhF.get (pc := 13) (rhI _) dX12_goOn_13 fl_X12_214 h3 rfl ?_
    refine rhF.icmp_ge (pc := 16) 58 dX12_goOn_16 (by decide) (fun h4 => ?_) (fun h4 => ?_)
    · refine rhF.aload_n (pc := 19) dX12_goOn_19 0 rfl ?_
      refine rhF.aload_n (pc := 20) dX12_goOn_20 0 rfl ?_
      refine rhF.get (pc := 21) (rhI _) dX12_goOn_21 fl_X12_259 h3 rfl ?_
      refine rhF.callV (pc := 24) (ci := 12) (embc := rhe0I _ _) [rhI _] dX12_goOn_24 ml_X12_262 mv_X12_sign ⟨_, rfl, rfl⟩ h3 (c_X12_sign _ _ _ _ _) (by decide) (by decide) rfl (Nat.le_of_ble_eq_true rfl) (fun r5 _ => ?_)
      refine rhF.bipush (pc := 27) (v := 32) dX12_goOn_27 (by decide) ?_
      refine rhF.icmp_eq (pc := 29) 45 dX12_goOn_29 (by decide) (fun h6 => ?_) (fun h6 => ?_)
      · exact (b_X12_goOn_45 ih) _ _
      · refine rhF.aload_n (pc := 32) dX12_goOn_32 0 rfl ?_
        refine rhF.aload_n (pc := 33) dX12_goOn_33 0 rfl ?_
        refine rhF.get (pc := 34) (rhI _) dX12_goOn_34 fl_X12_259 h3 rfl ?_
        refine rhF.callV (pc := 37) (ci := 12) (embc := rhe0I _ _) [rhI _] dX12_goOn_37 ml_X12_262 mv_X12_sign ⟨_, rfl, rfl⟩ h3 (c_X12_sign _ _ _ _ _) (by decide) (by decide) rfl (Nat.le_of_ble_eq_true rfl) (fun r9 _ => ?_)
        refine rhF.bipush (pc := 40) (v := 10) dX12_goOn_40 (by decide) ?_
        refine rhF.icmp_ne (pc := 42) 58 dX12_goOn_42 (by decide) (fun h10 => ?_) (fun h10 => ?_)
        · exact (b_X12_goOn_45 ih) _ _
        · exact hk58 _ _
    · exact hk58 _ _
set_option maxHeartbeats 4000000 in
set_option maxRecDepth 100000 in
theorem b_X12_goOn_374 {E : rhE} {Γ : rhG} : ∀ (M : rhM) (s0 : Nat) (s1 : Int32), rhF E 5 3 yX12_goOn cX12_goOn none Γ (rhe1U Γ) (f_X12_goOn_374 Γ M s0 s1) 374 [] [rhI s1, rhR s0] Γ M := by
  intro M s0 s1
  rw [f_X12_goOn_374]
  refine rhF.ck (fun h21 => ?_)
  refine rhF.puti (pc := 374) dX12_goOn_374 fl_X12_266 h21 (fun q hq => by cases hq; exact Or.inl rfl) ⟨rfl, rfl⟩ (fun _ => rfl) ?_
  exact rhF.vret (pc := 377) dX12_goOn_377 rfl rfl
set_option maxHeartbeats 4000000 in
set_option maxRecDepth 100000 in
theorem b_X12_goOn_309 {E : rhE} {Γ : rhG} {k259 : rhM → Nat → Option (rhM)} (hk259 : ∀ (M : rhM) (v0 : Nat), rhF E 5 3 yX12_goOn cX12_goOn none Γ (rhe1U Γ) (k259 M v0) 259 [(0, rhR v0)] [] Γ M) : ∀ (M : rhM) (v0 : Nat), rhF E 5 3 yX12_goOn cX12_goOn none Γ (rhe1U Γ) (f_X12_goOn_309 k259 Γ M v0) 309 [(0, rhR v0)] [] Γ M := by
  intro M v0
  rw [f_X12_goOn_309]
  refine rhF.aload_n (pc := 309) dX12_goOn_309 0 rfl ?_
  refine rhF.dupr (pc := 310) dX12_goOn_310 ?_
  refine rhF.ck (fun h32 => ?_)
  refine rhF.get (pc := 311) (rhI _) dX12_goOn_311 fl_X12_256 h32 rfl ?_
  refine rhF.iconst (pc := 314) (v := 1) dX12_goOn_314 (by decide) ?_
  refine rhF.iadd (pc := 315) dX12_goOn_315 ?_
  refine rhF.puti (pc := 316) dX12_goOn_316 fl_X12_256 h32 (fun q hq => by cases hq; exact Or.inl rfl) ⟨rfl, rfl⟩ (fun _ => rfl) ?_
  refine rhF.goto (pc := 319) 259 dX12_goOn_319 (by decide) ?_
  exact hk259 _ _
set_option maxHeartbeats 4000000 in
set_option maxRecDepth 100000 in
theorem b_X12_goOn_259 {E : rhE} {Γ : rhG} {k322 : rhM → Nat → Option (rhM)} (hk322 : ∀ (M : rhM) (v0 : Nat), rhF E 5 3 yX12_goOn cX12_goOn none Γ (rhe1U Γ) (k322 M v0) 322 [(0, rhR v0)] [] Γ M) : ∀ (n : Nat) (M : rhM) (v0 : Nat), rhF E 5 3 yX12_goOn cX12_goOn none Γ (rhe1U Γ) (f_X12_goOn_259 k322 Γ n M v0) 259 [(0, rhR v0)] [] Γ M := by
  intro n
  induction n with
  | zero => intro M v0; rw [f_X12_goOn_259]; exact rhF.nope
  | succ n ih =>
    intro M v0
    rw [f_X12_goOn_259]
    refine rhF.aload_n (pc := 259) dX12_goOn_259 0 rfl ?_
    refine rhF.aload_n (pc := 260) dX12_goOn_260 0 rfl ?_
    refine rhF.ck (fun h25 => ?_)
    refine rhF.get (pc := 261) (rhI _) dX12_goOn_261 fl_X12_256 h25 rfl ?_
    refine rhF.callV (pc := 264) (ci := 12) (embc := rhe0I _ _) [rhI _] dX12_goOn_264 ml_X12_262 mv_X12_sign ⟨_, rfl, rfl⟩ h25 (c_X12_sign _ _ _ _ _) (by decide) (by decide) rfl (Nat.le_of_ble_eq_true rfl) (fun r26 _ => ?_)
    refine rhF.callS (pc := 267) (embc := rhe0I _ _) [rhI _] dX12_goOn_267 ml_X12_281 ms_X12_isDigit (c_X12_isDigit _ _ _ _) (by decide) (by decide) rfl (Nat.le_of_ble_eq_true rfl) (fun r27 _ => ?_)
    refine rhF.if_eq (pc := 270) 322 dX12_goOn_270 (by decide) (fun h28 => ?_) (fun h28 => ?_)
    · exact hk322 _ _
    · refine rhF.aload_n (pc := 273) dX12_goOn_273 0 rfl ?_
      refine rhF.get (pc := 274) (rhI _) dX12_goOn_274 fl_X12_256 h25 rfl ?_
      refine rhF.aload_n (pc := 277) dX12_goOn_277 0 rfl ?_
      refine rhF.get (pc := 278) (rhI _) dX12_goOn_278 fl_X12_259 h25 rfl ?_
      refine rhF.isub (pc := 281) dX12_goOn_281 ?_
      refine rhF.iconst (pc := 282) (v := 4) dX12_goOn_282 (by decide) ?_
      refine rhF.icmp_ge (pc := 283) 309 dX12_goOn_283 (by decide) (fun h29 => ?_) (fun h29 => ?_)
      · refine rhF.aload_n (pc := 286) dX12_goOn_286 0 rfl ?_
        refine rhF.bipush (pc := 287) (v := 10) dX12_goOn_287 (by decide) ?_
        refine rhF.aload_n (pc := 289) dX12_goOn_289 0 rfl ?_
        refine rhF.get (pc := 290) (rhI _) dX12_goOn_290 fl_X12_284 h25 rfl ?_
        refine rhF.imul (pc := 293) dX12_goOn_293 ?_
        refine rhF.aload_n (pc := 294) dX12_goOn_294 0 rfl ?_
        refine rhF.aload_n (pc := 295) dX12_goOn_295 0 rfl ?_
        refine rhF.get (pc := 296) (rhI _) dX12_goOn_296 fl_X12_256 h25 rfl ?_
        refine rhF.callV (pc := 299) (ci := 12) (embc := rhe0I _ _) [rhI _] dX12_goOn_299 ml_X12_262 mv_X12_sign ⟨_, rfl, rfl⟩ h25 (c_X12_sign _ _ _ _ _) (by decide) (by decide) rfl (Nat.le_of_ble_eq_true rfl) (fun r30 _ => ?_)
        refine rhF.iadd (pc := 302) dX12_goOn_302 ?_
        refine rhF.bipush (pc := 303) (v := 48) dX12_goOn_303 (by decide) ?_
        refine rhF.isub (pc := 305) dX12_goOn_305 ?_
        refine rhF.puti (pc := 306) dX12_goOn_306 fl_X12_284 h25 (fun q hq => by cases hq; exact Or.inl rfl) ⟨rfl, rfl⟩ (fun _ => rfl) ?_
        exact (b_X12_goOn_309 ih) _ _
      · exact (b_X12_goOn_309 ih) _ _
set_option maxHeartbeats 4000000 in
set_option maxRecDepth 100000 in
theorem b_X12_goOn_350 {E : rhE} {Γ : rhG} {k355 : rhM → Nat → Int32 → Option (rhM)} (hk355 : ∀ (M : rhM) (s0 : Nat) (s1 : Int32), rhF E 5 3 yX12_goOn cX12_goOn none Γ (rhe1U Γ) (k355 M s0 s1) 355 [] [rhI s1, rhR s0] Γ M) : ∀ (M : rhM) (s0 : Nat), rhF E 5 3 yX12_goOn cX12_goOn none Γ (rhe1U Γ) (f_X12_goOn_350 k355 Γ M s0) 350 [] [rhR s0] Γ M := by
  intro M s0
  rw [f_X12_goOn_350]
  refine rhF.iconst (pc := 350) (v := 1) dX12_goOn_350 (by decide) ?_
  refine rhF.goto (pc := 351) 355 dX12_goOn_351 (by decide) ?_
  exact hk355 _ _ _
set_option maxHeartbeats 4000000 in
set_option maxRecDepth 100000 in
theorem b_X12_goOn_355 {E : rhE} {Γ : rhG} : ∀ (M : rhM) (s0 : Nat) (s1 : Int32), rhF E 5 3 yX12_goOn cX12_goOn none Γ (rhe1U Γ) (f_X12_goOn_355 Γ M s0 s1) 355 [] [rhI s1, rhR s0] Γ M := by
  intro M s0 s1
  rw [f_X12_goOn_355]
  refine rhF.ck (fun h36 => ?_)
  refine rhF.puti (pc := 355) dX12_goOn_355 fl_X12_266 h36 (fun q hq => by cases hq; exact Or.inl rfl) ⟨rfl, rfl⟩ (fun _ => rfl) ?_
  refine rhF.goto (pc := 358) 377 dX12_goOn_358 (by decide) ?_
  exact rhF.vret (pc := 377) dX12_goOn_377 rfl rfl
set_option maxHeartbeats 4000000 in
set_option maxRecDepth 100000 in
theorem b_X12_goOn_322 {E : rhE} {Γ : rhG} : ∀ (M : rhM) (v0 : Nat), rhF E 5 3 yX12_goOn cX12_goOn none Γ (rhe1U Γ) (f_X12_goOn_322 Γ M v0) 322 [(0, rhR v0)] [] Γ M := by
  intro M v0
  rw [f_X12_goOn_322]
  refine rhF.aload_n (pc := 322) dX12_goOn_322 0 rfl ?_
  refine rhF.aload_n (pc := 323) dX12_goOn_323 0 rfl ?_
  refine rhF.ck (fun h34 => ?_)
  refine rhF.get (pc := 324) (rhI _) dX12_goOn_324 fl_X12_256 h34 rfl ?_
  refine rhF.aload_n (pc := 327) dX12_goOn_327 0 rfl ?_
  refine rhF.get (pc := 328) (rhI _) dX12_goOn_328 fl_X12_259 h34 rfl ?_
  refine rhF.isub (pc := 331) dX12_goOn_331 ?_
  refine rhF.iconst (pc := 332) (v := 4) dX12_goOn_332 (by decide) ?_
  refine rhF.icmp_gt (pc := 333) 350 dX12_goOn_333 (by decide) (fun h35 => ?_) (fun h35 => ?_)
  · refine rhF.sub [] rfl ?_
    exact (b_X12_goOn_350 (b_X12_goOn_355)) _ _
  · refine rhF.aload_n (pc := 336) dX12_goOn_336 0 rfl ?_
    refine rhF.aload_n (pc := 337) dX12_goOn_337 0 rfl ?_
    refine rhF.get (pc := 338) (rhI _) dX12_goOn_338 fl_X12_256 h34 rfl ?_
    refine rhF.callV (pc := 341) (ci := 12) (embc := rhe0I _ _) [rhI _] dX12_goOn_341 ml_X12_262 mv_X12_sign ⟨_, rfl, rfl⟩ h34 (c_X12_sign _ _ _ _ _) (by decide) (by decide) rfl (Nat.le_of_ble_eq_true rfl) (fun r38 _ => ?_)
    refine rhF.callS (pc := 344) (embc := rhe0I _ _) [rhI _] dX12_goOn_344 ml_X12_269 ms_X12_isLetter (c_X12_isLetter _ _ _ _) (by decide) (by decide) rfl (Nat.le_of_ble_eq_true rfl) (fun r39 _ => ?_)
    refine rhF.if_eq (pc := 347) 354 dX12_goOn_347 (by decide) (fun h40 => ?_) (fun h40 => ?_)
    · refine rhF.iconst (pc := 354) (v := 4) dX12_goOn_354 (by decide) ?_
      refine rhF.sub [] rfl ?_
      exact (b_X12_goOn_355) _ _ _
    · refine rhF.sub [] rfl ?_
      exact (b_X12_goOn_350 (b_X12_goOn_355)) _ _
set_option maxHeartbeats 4000000 in
set_option maxRecDepth 100000 in
theorem b_X12_goOn_119 {E : rhE} {Γ : rhG} {k146 : rhM → Nat → Option (rhM)} (hk146 : ∀ (M : rhM) (v0 : Nat), rhF E 5 3 yX12_goOn cX12_goOn none Γ (rhe1U Γ) (k146 M v0) 146 [(0, rhR v0)] [] Γ M) : ∀ (n : Nat) (M : rhM) (v0 : Nat), rhF E 5 3 yX12_goOn cX12_goOn none Γ (rhe1U Γ) (f_X12_goOn_119 k146 Γ n M v0) 119 [(0, rhR v0)] [] Γ M := by
  intro n
  induction n with
  | zero => intro M v0; rw [f_X12_goOn_119]; exact rhF.nope
  | succ n ih =>
    intro M v0
    rw [f_X12_goOn_119]
    refine rhF.aload_n (pc := 119) dX12_goOn_119 0 rfl ?_
    refine rhF.aload_n (pc := 120) dX12_goOn_120 0 rfl ?_
    refine rhF.ck (fun h41 => ?_)
    refine rhF.get (pc := 121) (rhI _) dX12_goOn_121 fl_X12_256 h41 rfl ?_
    refine rhF.callV (pc := 124) (ci := 12) (embc := rhe0I _ _) [rhI _] dX12_goOn_124 ml_X12_262 mv_X12_sign ⟨_, rfl, rfl⟩ h41 (c_X12_sign _ _ _ _ _) (by decide) (by decide) rfl (Nat.le_of_ble_eq_true rfl) (fun r42 _ => ?_)
    refine rhF.callS (pc := 127) (embc := rhe0I _ _) [rhI _] dX12_goOn_127 ml_X12_269 ms_X12_isLetter (c_X12_isLetter _ _ _ _) (by decide) (by decide) rfl (Nat.le_of_ble_eq_true rfl) (fun r43 _ => ?_)
    refine rhF.if_eq (pc := 130) 146 dX12_goOn_130 (by decide) (fun h44 => ?_) (fun h44 => ?_)
    · exact hk146 _ _
    · refine rhF.aload_n (pc := 133) dX12_goOn_133 0 rfl ?_
      refine rhF.dupr (pc := 134) dX12_goOn_134 ?_
      refine rhF.get (pc := 135) (rhI _) dX12_goOn_135 fl_X12_256 h41 rfl ?_
      refine rhF.iconst (pc := 138) (v := 1) dX12_goOn_138 (by decide) ?_
      refine rhF.iadd (pc := 139) dX12_goOn_139 ?_
      refine rhF.puti (pc := 140) dX12_goOn_140 fl_X12_256 h41 (fun q hq => by cases hq; exact Or.inl rfl) ⟨rfl, rfl⟩ (fun _ => rfl) ?_
      refine rhF.goto (pc := 143) 119 dX12_goOn_143 (by decide) ?_
      exact ih _ _
set_option maxHeartbeats 4000000 in
set_option maxRecDepth 100000 in
theorem b_X12_goOn_156 {E : rhE} {Γ : rhG} {k199 : rhM → Nat → Option (rhM)} (hk199 : ∀ (M : rhM) (v0 : Nat), rhF E 5 3 yX12_goOn cX12_goOn none Γ (rhe1U Γ) (k199 M v0) 199 [(0, rhR v0)] [] Γ M) : ∀ (n : Nat) (M : rhM) (v0 : Nat) (v2 : Int32), rhF E 5 3 yX12_goOn cX12_goOn none Γ (rhe1U Γ) (f_X12_goOn_156 k199 Γ n M v0 v2) 156 [(0, rhR v0), (2, rhI v2)] [] Γ M := by
  intro n
  induction n with
  | zero => intro M v0 v2; rw [f_X12_goOn_156]; exact rhF.nope
  | succ n ih =>
    intro M v0 v2
    rw [f_X12_goOn_156]
    refine rhF.iload_n (pc := 156) dX12_goOn_156 1 rfl ?_
    refine rhF.aload_n (pc := 157) dX12_goOn_157 0 rfl ?_
    refine rhF.ck (fun h49 => ?_)
    refine rhF.get (pc := 158) (rhI _) dX12_goOn_158 fl_X12_256 h49 rfl ?_
    refine rhF.icmp_ge (pc := 161) 199 dX12_goOn_161 (by decide) (fun h50 => ?_) (fun h50 => ?_)
    · refine rhF.iload_n (pc := 164) dX12_goOn_164 1 rfl ?_
      refine rhF.aload_n (pc := 165) dX12_goOn_165 0 rfl ?_
      refine rhF.get (pc := 166) (rhI _) dX12_goOn_166 fl_X12_259 h49 rfl ?_
      refine rhF.bipush (pc := 169) (v := 8) dX12_goOn_169 (by decide) ?_
      refine rhF.iadd (pc := 171) dX12_goOn_171 ?_
      refine rhF.icmp_ge (pc := 172) 199 dX12_goOn_172 (by decide) (fun h51 => ?_) (fun h51 => ?_)
      · refine rhF.aload_n (pc := 175) dX12_goOn_175 0 rfl ?_
        refine rhF.aload_n (pc := 176) dX12_goOn_176 0 rfl ?_
        refine rhF.get (pc := 177) (rhJ _) dX12_goOn_177 fl_X12_273 h49 rfl ?_
        refine rhF.bipush (pc := 180) (v := 8) dX12_goOn_180 (by decide) ?_
        refine rhF.lshl (pc := 182) dX12_goOn_182 ?_
        refine rhF.aload_n (pc := 183) dX12_goOn_183 0 rfl ?_
        refine rhF.iload_n (pc := 184) dX12_goOn_184 1 rfl ?_
        refine rhF.callV (pc := 185) (ci := 12) (embc := rhe0I _ _) [rhI _] dX12_goOn_185 ml_X12_262 mv_X12_sign ⟨_, rfl, rfl⟩ h49 (c_X12_sign _ _ _ _ _) (by decide) (by decide) rfl (Nat.le_of_ble_eq_true rfl) (fun r52 _ => ?_)
        refine rhF.i2l (pc := 188) dX12_goOn_188 ?_
        refine rhF.lor (pc := 189) dX12_goOn_189 ?_
        refine rhF.putl (pc := 190) dX12_goOn_190 fl_X12_273 h49 (fun q hq => by cases hq; exact Or.inl rfl) ⟨rfl, rfl⟩ (fun _ => rfl) ?_
        refine rhF.iinc (pc := 193) (L' := [(2, rhI _), (0, rhR _)]) dX12_goOn_193 1 rfl rfl (by decide) rfl ?_
        refine rhF.goto (pc := 196) 156 dX12_goOn_196 (by decide) ?_
        refine rhF.sub [1, 0] rfl ?_
        exact ih _ _ _
      · refine rhF.sub [0] rfl ?_
        exact hk199 _ _
    · refine rhF.sub [0] rfl ?_
      exact hk199 _ _
set_option maxHeartbeats 4000000 in
set_option maxRecDepth 100000 in
theorem b_X12_goOn_233 {E : rhE} {Γ : rhG} : ∀ (M : rhM) (s0 : Nat) (s1 : Int32), rhF E 5 3 yX12_goOn cX12_goOn none Γ (rhe1U Γ) (f_X12_goOn_233 Γ M s0 s1) 233 [] [rhI s1, rhR s0] Γ M := by
  intro M s0 s1
  rw [f_X12_goOn_233]
  refine rhF.ck (fun h57 => ?_)
  refine rhF.puti (pc := 233) dX12_goOn_233 fl_X12_266 h57 (fun q hq => by cases hq; exact Or.inl rfl) ⟨rfl, rfl⟩ (fun _ => rfl) ?_
  refine rhF.goto (pc := 236) 377 dX12_goOn_236 (by decide) ?_
  exact rhF.vret (pc := 377) dX12_goOn_377 rfl rfl
set_option maxHeartbeats 4000000 in
set_option maxRecDepth 100000 in
theorem b_X12_goOn_199 {E : rhE} {Γ : rhG} : ∀ (M : rhM) (v0 : Nat), rhF E 5 3 yX12_goOn cX12_goOn none Γ (rhe1U Γ) (f_X12_goOn_199 Γ M v0) 199 [(0, rhR v0)] [] Γ M := by
  intro M v0
  rw [f_X12_goOn_199]
  refine rhF.aload_n (pc := 199) dX12_goOn_199 0 rfl ?_
  refine rhF.aload_n (pc := 200) dX12_goOn_200 0 rfl ?_
  refine rhF.ck (fun h55 => ?_)
  refine rhF.get (pc := 201) (rhI _) dX12_goOn_201 fl_X12_256 h55 rfl ?_
  refine rhF.aload_n (pc := 204) dX12_goOn_204 0 rfl ?_
  refine rhF.get (pc := 205) (rhI _) dX12_goOn_205 fl_X12_259 h55 rfl ?_
  refine rhF.isub (pc := 208) dX12_goOn_208 ?_
  refine rhF.bipush (pc := 209) (v := 8) dX12_goOn_209 (by decide) ?_
  refine rhF.icmp_le (pc := 211) 218 dX12_goOn_211 (by decide) (fun h56 => ?_) (fun h56 => ?_)
  · refine rhF.iconst (pc := 214) (v := 1) dX12_goOn_214 (by decide) ?_
    refine rhF.goto (pc := 215) 233 dX12_goOn_215 (by decide) ?_
    refine rhF.sub [] rfl ?_
    exact (b_X12_goOn_233) _ _ _
  · refine rhF.aload_n (pc := 218) dX12_goOn_218 0 rfl ?_
    refine rhF.get (pc := 219) (rhJ _) dX12_goOn_219 fl_X12_273 h55 rfl ?_
    refine rhF.callS (pc := 222) (embc := rhe0I _ _) [rhJ _] dX12_goOn_222 ml_X12_277 ms_X12_isKept (c_X12_isKept _ _ _ _) (by decide) (by decide) rfl (Nat.le_of_ble_eq_true rfl) (fun r59 _ => ?_)
    refine rhF.if_eq (pc := 225) 232 dX12_goOn_225 (by decide) (fun h60 => ?_) (fun h60 => ?_)
    · refine rhF.iconst (pc := 232) (v := 2) dX12_goOn_232 (by decide) ?_
      refine rhF.sub [] rfl ?_
      exact (b_X12_goOn_233) _ _ _
    · refine rhF.iconst (pc := 228) (v := 3) dX12_goOn_228 (by decide) ?_
      refine rhF.goto (pc := 229) 233 dX12_goOn_229 (by decide) ?_
      refine rhF.sub [] rfl ?_
      exact (b_X12_goOn_233) _ _ _
set_option maxHeartbeats 4000000 in
set_option maxRecDepth 100000 in
theorem b_X12_goOn_146 {E : rhE} {Γ : rhG} : ∀ (M : rhM) (v0 : Nat), rhF E 5 3 yX12_goOn cX12_goOn none Γ (rhe1U Γ) (f_X12_goOn_146 Γ M v0) 146 [(0, rhR v0)] [] Γ M := by
  intro M v0
  rw [f_X12_goOn_146]
  refine rhF.aload_n (pc := 146) dX12_goOn_146 0 rfl ?_
  refine rhF.lconst (pc := 147) (v := 0) dX12_goOn_147 (by decide) ?_
  refine rhF.ck (fun h46 => ?_)
  refine rhF.putl (pc := 148) dX12_goOn_148 fl_X12_273 h46 (fun q hq => by cases hq; exact Or.inl rfl) ⟨rfl, rfl⟩ (fun _ => rfl) ?_
  refine rhF.aload_n (pc := 151) dX12_goOn_151 0 rfl ?_
  refine rhF.get (pc := 152) (rhI _) dX12_goOn_152 fl_X12_259 h46 rfl ?_
  refine rhF.istore_n (pc := 155) (L' := [(2, rhI _), (0, rhR _)]) dX12_goOn_155 (by decide) rfl ?_
  refine rhF.sub [1, 0] rfl ?_
  exact (b_X12_goOn_156 (b_X12_goOn_199) rhFU) _ _ _
set_option maxHeartbeats 4000000 in
set_option maxRecDepth 100000 in
theorem b_X12_goOn_58 {E : rhE} {Γ : rhG} : ∀ (M : rhM) (v0 : Nat), rhF E 5 3 yX12_goOn cX12_goOn none Γ (rhe1U Γ) (f_X12_goOn_58 Γ M v0) 58 [(0, rhR v0)] [] Γ M := by
  intro M v0
  rw [f_X12_goOn_58]
  refine rhF.aload_n (pc := 58) dX12_goOn_58 0 rfl ?_
  refine rhF.aload_n (pc := 59) dX12_goOn_59 0 rfl ?_
  refine rhF.ck (fun h11 => ?_)
  refine rhF.get (pc := 60) (rhI _) dX12_goOn_60 fl_X12_259 h11 rfl ?_
  refine rhF.callV (pc := 63) (ci := 12) (embc := rhe0I _ _) [rhI _] dX12_goOn_63 ml_X12_262 mv_X12_sign ⟨_, rfl, rfl⟩ h11 (c_X12_sign _ _ _ _ _) (by decide) (by decide) rfl (Nat.le_of_ble_eq_true rfl) (fun r12 _ => ?_)
  refine rhF.istore_n (pc := 66) (L' := [(1, rhI _), (0, rhR _)]) dX12_goOn_66 (by decide) rfl ?_
  refine rhF.aload_n (pc := 67) dX12_goOn_67 1 rfl ?_
  refine rhF.aload_n (pc := 68) dX12_goOn_68 1 rfl ?_
  refine rhF.get (pc := 69) (rhI _) dX12_goOn_69 fl_X12_259 h11 rfl ?_
  refine rhF.iconst (pc := 72) (v := 1) dX12_goOn_72 (by decide) ?_
  refine rhF.iadd (pc := 73) dX12_goOn_73 ?_
  refine rhF.puti (pc := 74) dX12_goOn_74 fl_X12_256 h11 (fun q hq => by cases hq; exact Or.inl rfl) ⟨rfl, rfl⟩ (fun _ => rfl) ?_
  refine rhF.aload_n (pc := 77) dX12_goOn_77 1 rfl ?_
  refine rhF.get (pc := 78) (rhI _) dX12_goOn_78 fl_X12_259 h11 rfl ?_
  refine rhF.aload_n (pc := 81) dX12_goOn_81 1 rfl ?_
  refine rhF.get (pc := 82) (rhI _) dX12_goOn_82 fl_X12_214 h11 rfl ?_
  refine rhF.icmp_lt (pc := 85) 112 dX12_goOn_85 (by decide) (fun h14 => ?_) (fun h14 => ?_)
  · refine rhF.iload_n (pc := 112) dX12_goOn_112 0 rfl ?_
    refine rhF.callS (pc := 113) (embc := rhe0I _ _) [rhI _] dX12_goOn_113 ml_X12_269 ms_X12_isLetter (c_X12_isLetter _ _ _ _) (by decide) (by decide) rfl (Nat.le_of_ble_eq_true rfl) (fun r15 _ => ?_)
    refine rhF.if_eq (pc := 116) 239 dX12_goOn_116 (by decide) (fun h16 => ?_) (fun h16 => ?_)
    · refine rhF.iload_n (pc := 239) dX12_goOn_239 0 rfl ?_
      refine rhF.callS (pc := 240) (embc := rhe0I _ _) [rhI _] dX12_goOn_240 ml_X12_281 ms_X12_isDigit (c_X12_isDigit _ _ _ _) (by decide) (by decide) rfl (Nat.le_of_ble_eq_true rfl) (fun r17 _ => ?_)
      refine rhF.if_eq (pc := 243) 361 dX12_goOn_243 (by decide) (fun h18 => ?_) (fun h18 => ?_)
      · refine rhF.aload_n (pc := 361) dX12_goOn_361 1 rfl ?_
        refine rhF.iload_n (pc := 362) dX12_goOn_362 0 rfl ?_
        refine rhF.callS (pc := 363) (embc := rhe0I _ _) [rhI _] dX12_goOn_363 ml_X12_287 ms_X12_isSign (c_X12_isSign _ _ _ _) (by decide) (by decide) rfl (Nat.le_of_ble_eq_true rfl) (fun r19 _ => ?_)
        refine rhF.if_eq (pc := 366) 373 dX12_goOn_366 (by decide) (fun h20 => ?_) (fun h20 => ?_)
        · refine rhF.iconst (pc := 373) (v := 1) dX12_goOn_373 (by decide) ?_
          refine rhF.sub [] rfl ?_
          exact (b_X12_goOn_374) _ _ _
        · refine rhF.iconst (pc := 369) (v := 5) dX12_goOn_369 (by decide) ?_
          refine rhF.goto (pc := 370) 374 dX12_goOn_370 (by decide) ?_
          refine rhF.sub [] rfl ?_
          exact (b_X12_goOn_374) _ _ _
      · refine rhF.aload_n (pc := 246) dX12_goOn_246 1 rfl ?_
        refine rhF.iconst (pc := 247) (v := 0) dX12_goOn_247 (by decide) ?_
        refine rhF.puti (pc := 248) dX12_goOn_248 fl_X12_284 h11 (fun q hq => by cases hq; exact Or.inl rfl) ⟨rfl, rfl⟩ (fun _ => rfl) ?_
        refine rhF.aload_n (pc := 251) dX12_goOn_251 1 rfl ?_
        refine rhF.aload_n (pc := 252) dX12_goOn_252 1 rfl ?_
        refine rhF.get (pc := 253) (rhI _) dX12_goOn_253 fl_X12_259 h11 rfl ?_
        refine rhF.puti (pc := 256) dX12_goOn_256 fl_X12_256 h11 (fun q hq => by cases hq; exact Or.inl rfl) ⟨rfl, rfl⟩ (fun _ => rfl) ?_
        refine rhF.sub [1] rfl ?_
        exact (b_X12_goOn_259 (b_X12_goOn_322) rhFU) _ _
    · refine rhF.sub [1] rfl ?_
      exact (b_X12_goOn_119 (b_X12_goOn_146) rhFU) _ _
  · refine rhF.aload_n (pc := 88) dX12_goOn_88 1 rfl ?_
    refine rhF.iconst (pc := 89) (v := 0) dX12_goOn_89 (by decide) ?_
    refine rhF.puti (pc := 90) dX12_goOn_90 fl_X12_266 h11 (fun q hq => by cases hq; exact Or.inl rfl) ⟨rfl, rfl⟩ (fun _ => rfl) ?_
    refine rhF.aload_n (pc := 93) dX12_goOn_93 1 rfl ?_
    refine rhF.aload_n (pc := 94) dX12_goOn_94 1 rfl ?_
    refine rhF.get (pc := 95) (rhI _) dX12_goOn_95 fl_X12_214 h11 rfl ?_
    refine rhF.puti (pc := 98) dX12_goOn_98 fl_X12_259 h11 (fun q hq => by cases hq; exact Or.inl rfl) ⟨rfl, rfl⟩ (fun _ => rfl) ?_
    refine rhF.aload_n (pc := 101) dX12_goOn_101 1 rfl ?_
    refine rhF.aload_n (pc := 102) dX12_goOn_102 1 rfl ?_
    refine rhF.get (pc := 103) (rhI _) dX12_goOn_103 fl_X12_214 h11 rfl ?_
    refine rhF.puti (pc := 106) dX12_goOn_106 fl_X12_256 h11 (fun q hq => by cases hq; exact Or.inl rfl) ⟨rfl, rfl⟩ (fun _ => rfl) ?_
    refine rhF.goto (pc := 109) 377 dX12_goOn_109 (by decide) ?_
    exact rhF.vret (pc := 377) dX12_goOn_377 rfl rfl
set_option maxHeartbeats 4000000 in
set_option maxRecDepth 100000 in
theorem b_X12_goOn {E : rhE} {Γ : rhG} : ∀ (M : rhM) (v0 : Nat), rhF E 5 3 yX12_goOn cX12_goOn none Γ (rhe1U Γ) (f_X12_goOn Γ M v0) 0 [(0, rhR v0)] [] Γ M := by
  intro M v0
  rw [f_X12_goOn]
  refine rhF.aload_n (pc := 0) dX12_goOn_0 0 rfl ?_
  refine rhF.aload_n (pc := 1) dX12_goOn_1 0 rfl ?_
  refine rhF.ck (fun h1 => ?_)
  refine rhF.get (pc := 2) (rhI _) dX12_goOn_2 fl_X12_256 h1 rfl ?_
  refine rhF.puti (pc := 5) dX12_goOn_5 fl_X12_259 h1 (fun q hq => by cases hq; exact Or.inl rfl) ⟨rfl, rfl⟩ (fun _ => rfl) ?_
  exact (b_X12_goOn_8 (b_X12_goOn_58) rhFU) _ _
theorem c_X12_goOn (E : rhE) (Γ : rhG) (M : rhM) (v0 : Nat) : ∀ a, f_X12_goOn Γ M v0 = some a → rhC E 5 yX12_goOn cX12_goOn 3 none [rhR v0] Γ M ((rhe1U Γ) a) := rhF.met (by decide +kernel) (Nat.le_of_ble_eq_true rfl) (b_X12_goOn M v0)
def f_X12_isGood (Γ : rhG) (M : rhM) (v0 : Nat) : Option (Int32) :=
  rhck (Γ.2.2.1 v0 = 13) <|
  if (M.1 v0 4) = 0 then
    (some 1)
  else
    some 0
set_option maxHeartbeats 4000000 in
set_option maxRecDepth 100000 in
theorem b_X12_isGood {E : rhE} {Γ : rhG} {M : rhM} : ∀ (v0 : Nat), rhF E 1 1 yX12_isGood cX12_isGood (some .boolean) Γ (rhe0I Γ M) (f_X12_isGood Γ M v0) 0 [(0, rhR v0)] [] Γ M := by
  intro v0
  rw [f_X12_isGood]
  refine rhF.aload_n (pc := 0) dX12_isGood_0 0 rfl ?_
  refine rhF.ck (fun h1 => ?_)
  refine rhF.get (pc := 1) (rhI _) dX12_isGood_1 fl_X12_217 h1 rfl ?_
  refine rhF.if_ne (pc := 4) 11 dX12_isGood_4 (by decide) (fun h2 => ?_) (fun h2 => ?_)
  · refine rhF.iconst (pc := 7) (v := 1) dX12_isGood_7 (by decide) ?_
    refine rhF.goto (pc := 8) 12 dX12_isGood_8 (by decide) ?_
    exact rhF.zret (pc := 12) dX12_isGood_12 rfl rfl rfl
  · refine rhF.iconst (pc := 11) (v := 0) dX12_isGood_11 (by decide) ?_
    exact rhF.zret (pc := 12) dX12_isGood_12 rfl rfl rfl
theorem c_X12_isGood (E : rhE) (Γ : rhG) (M : rhM) (v0 : Nat) : ∀ a, f_X12_isGood Γ M v0 = some a → rhC E 1 yX12_isGood cX12_isGood 1 (some .boolean) [rhR v0] Γ M ((rhe0I Γ M) a) := rhF.met (by decide +kernel) (Nat.le_of_ble_eq_true rfl) (b_X12_isGood v0)
def f_X12_fails (Γ : rhG) (M : rhM) (v0 : Nat) (v1 : Int32) (v2 : Int32) : Option (rhM) :=
  rhck (Γ.2.2.1 v0 = 13) <|
  if 0 < (M.1 v0 4) then
    (some M)
  else
    let M3 := rhsi M v0 4 v1
    let M4 := rhsi M3 v0 5 v2
    some M4
set_option maxHeartbeats 4000000 in
set_option maxRecDepth 100000 in
theorem b_X12_fails {E : rhE} {Γ : rhG} : ∀ (M : rhM) (v0 : Nat) (v1 : Int32) (v2 : Int32), rhF E 1 3 yX12_fails cX12_fails none Γ (rhe1U Γ) (f_X12_fails Γ M v0 v1 v2) 0 [(0, rhR v0), (1, rhI v1), (2, rhI v2)] [] Γ M := by
  intro M v0 v1 v2
  rw [f_X12_fails]
  refine rhF.aload_n (pc := 0) dX12_fails_0 0 rfl ?_
  refine rhF.ck (fun h1 => ?_)
  refine rhF.get (pc := 1) (rhI _) dX12_fails_1 fl_X12_217 h1 rfl ?_
  refine rhF.if_le (pc := 4) 8 dX12_fails_4 (by decide) (fun h2 => ?_) (fun h2 => ?_)
  · exact rhF.vret (pc := 7) dX12_fails_7 rfl rfl
  · refine rhF.aload_n (pc := 8) dX12_fails_8 0 rfl ?_
    refine rhF.iload_n (pc := 9) dX12_fails_9 1 rfl ?_
    refine rhF.puti (pc := 10) dX12_fails_10 fl_X12_217 h1 (fun q hq => by cases hq; exact Or.inl rfl) ⟨rfl, rfl⟩ (fun _ => rfl) ?_
    refine rhF.aload_n (pc := 13) dX12_fails_13 0 rfl ?_
    refine rhF.iload_n (pc := 14) dX12_fails_14 2 rfl ?_
    refine rhF.puti (pc := 15) dX12_fails_15 fl_X12_16 h1 (fun q hq => by cases hq; exact Or.inl rfl) ⟨rfl, rfl⟩ (fun _ => rfl) ?_
    exact rhF.vret (pc := 18) dX12_fails_18 rfl rfl
theorem c_X12_fails (E : rhE) (Γ : rhG) (M : rhM) (v0 : Nat) (v1 : Int32) (v2 : Int32) : ∀ a, f_X12_fails Γ M v0 v1 v2 = some a → rhC E 1 yX12_fails cX12_fails 3 none [rhR v0, rhI v1, rhI v2] Γ M ((rhe1U Γ) a) := rhF.met (by decide +kernel) (Nat.le_of_ble_eq_true rfl) (b_X12_fails M v0 v1 v2)
def f_X12_misplaced_14 (Γ : rhG) (M : rhM) (v0 : Nat) (s0 : Nat) (s1 : Int32) : Option (rhM) :=
  rhck (Γ.2.2.1 v0 = 13) <|
  rhck (Γ.2.2.1 s0 = 13) <|
  (f_X12_fails Γ M s0 s1 (M.1 v0 6)).bind fun r5 =>
  some r5
def f_X12_misplaced (Γ : rhG) (M : rhM) (v0 : Nat) : Option (rhM) :=
  rhck (Γ.2.2.1 v0 = 13) <|
  if (M.1 v0 8) = 1 then
    (f_X12_misplaced_14 Γ M v0 v0 1)
  else
    f_X12_misplaced_14 Γ M v0 v0 2
set_option maxHeartbeats 4000000 in
set_option maxRecDepth 100000 in
theorem b_X12_misplaced_14 {E : rhE} {Γ : rhG} : ∀ (M : rhM) (v0 : Nat) (s0 : Nat) (s1 : Int32), rhF E 5 1 yX12_misplaced cX12_misplaced none Γ (rhe1U Γ) (f_X12_misplaced_14 Γ M v0 s0 s1) 14 [(0, rhR v0)] [rhI s1, rhR s0] Γ M := by
  intro M v0 s0 s1
  rw [f_X12_misplaced_14]
  refine rhF.aload_n (pc := 14) dX12_misplaced_14 0 rfl ?_
  refine rhF.ck (fun h3 => ?_)
  refine rhF.get (pc := 15) (rhI _) dX12_misplaced_15 fl_X12_259 h3 rfl ?_
  refine rhF.ck (fun h4 => ?_)
  refine rhF.callV (pc := 18) (ci := 12) (embc := rhe1U _) [rhI _, rhI _] dX12_misplaced_18 ml_X12_290 mv_X12_fails ⟨_, rfl, rfl⟩ h4 (c_X12_fails _ _ _ _ _ _) (by decide) (by decide) rfl (Nat.le_of_ble_eq_true rfl) (fun r5 _ => ?_)
  exact rhF.vret (pc := 21) dX12_misplaced_21 rfl rfl
set_option maxHeartbeats 4000000 in
set_option maxRecDepth 100000 in
theorem b_X12_misplaced {E : rhE} {Γ : rhG} : ∀ (M : rhM) (v0 : Nat), rhF E 5 1 yX12_misplaced cX12_misplaced none Γ (rhe1U Γ) (f_X12_misplaced Γ M v0) 0 [(0, rhR v0)] [] Γ M := by
  intro M v0
  rw [f_X12_misplaced]
  refine rhF.aload_n (pc := 0) dX12_misplaced_0 0 rfl ?_
  refine rhF.aload_n (pc := 1) dX12_misplaced_1 0 rfl ?_
  refine rhF.ck (fun h1 => ?_)
  refine rhF.get (pc := 2) (rhI _) dX12_misplaced_2 fl_X12_266 h1 rfl ?_
  refine rhF.iconst (pc := 5) (v := 1) dX12_misplaced_5 (by decide) ?_
  refine rhF.icmp_ne (pc := 6) 13 dX12_misplaced_6 (by decide) (fun h2 => ?_) (fun h2 => ?_)
  · refine rhF.iconst (pc := 9) (v := 1) dX12_misplaced_9 (by decide) ?_
    refine rhF.goto (pc := 10) 14 dX12_misplaced_10 (by decide) ?_
    exact (b_X12_misplaced_14) _ _ _ _
  · refine rhF.iconst (pc := 13) (v := 2) dX12_misplaced_13 (by decide) ?_
    exact (b_X12_misplaced_14) _ _ _ _
theorem c_X12_misplaced (E : rhE) (Γ : rhG) (M : rhM) (v0 : Nat) : ∀ a, f_X12_misplaced Γ M v0 = some a → rhC E 5 yX12_misplaced cX12_misplaced 1 none [rhR v0] Γ M ((rhe1U Γ) a) := rhF.met (by decide +kernel) (Nat.le_of_ble_eq_true rfl) (b_X12_misplaced M v0)
def f_X12_must (Γ : rhG) (M : rhM) (v0 : Nat) (v1 : Int32) : Option (rhM) :=
  rhck (Γ.2.2.1 v0 = 13) <|
  (f_X12_isGood Γ M v0).bind fun r2 =>
  if r2 = 0 then
    (some M)
  else
    if v1 = 0 then
      ((f_X12_misplaced Γ M v0).bind fun r5 =>
      some r5)
    else
      (f_X12_goOn Γ M v0).bind fun r6 =>
      some r6
set_option maxHeartbeats 4000000 in
set_option maxRecDepth 100000 in
theorem b_X12_must {E : rhE} {Γ : rhG} : ∀ (M : rhM) (v0 : Nat) (v1 : Int32), rhF E 6 2 yX12_must cX12_must none Γ (rhe1U Γ) (f_X12_must Γ M v0 v1) 0 [(0, rhR v0), (1, rhI v1)] [] Γ M := by
  intro M v0 v1
  rw [f_X12_must]
  refine rhF.aload_n (pc := 0) dX12_must_0 0 rfl ?_
  refine rhF.ck (fun h1 => ?_)
  refine rhF.callV (pc := 1) (ci := 12) (embc := rhe0I _ _) [] dX12_must_1 ml_X12_294 mv_X12_isGood ⟨_, rfl, rfl⟩ h1 (c_X12_isGood _ _ _ _) (by decide) (by decide) rfl (Nat.le_of_ble_eq_true rfl) (fun r2 _ => ?_)
  refine rhF.if_ne (pc := 4) 8 dX12_must_4 (by decide) (fun h3 => ?_) (fun h3 => ?_)
  · exact rhF.vret (pc := 7) dX12_must_7 rfl rfl
  · refine rhF.iload_n (pc := 8) dX12_must_8 1 rfl ?_
    refine rhF.if_eq (pc := 9) 19 dX12_must_9 (by decide) (fun h4 => ?_) (fun h4 => ?_)
    · refine rhF.aload_n (pc := 19) dX12_must_19 0 rfl ?_
      refine rhF.callV (pc := 20) (ci := 12) (embc := rhe1U _) [] dX12_must_20 ml_X12_301 mv_X12_misplaced ⟨_, rfl, rfl⟩ h1 (c_X12_misplaced _ _ _ _) (by decide) (by decide) rfl (Nat.le_of_ble_eq_true rfl) (fun r5 _ => ?_)
      exact rhF.vret (pc := 23) dX12_must_23 rfl rfl
    · refine rhF.aload_n (pc := 12) dX12_must_12 0 rfl ?_
      refine rhF.callV (pc := 13) (ci := 12) (embc := rhe1U _) [] dX12_must_13 ml_X12_298 mv_X12_goOn ⟨_, rfl, rfl⟩ h1 (c_X12_goOn _ _ _ _) (by decide) (by decide) rfl (Nat.le_of_ble_eq_true rfl) (fun r6 _ => ?_)
      refine rhF.goto (pc := 16) 23 dX12_must_16 (by decide) ?_
      exact rhF.vret (pc := 23) dX12_must_23 rfl rfl
theorem c_X12_must (E : rhE) (Γ : rhG) (M : rhM) (v0 : Nat) (v1 : Int32) : ∀ a, f_X12_must Γ M v0 v1 = some a → rhC E 6 yX12_must cX12_must 2 none [rhR v0, rhI v1] Γ M ((rhe1U Γ) a) := rhF.met (by decide +kernel) (Nat.le_of_ble_eq_true rfl) (b_X12_must M v0 v1)
def f_X12_numeral_69 (Γ : rhG) (M : rhM) (v0 : Nat) (v1 : Int32) (v3 : Int32) : Option (Int32 × rhM) :=
  rhck (Γ.2.2.1 v0 = 13) <|
  (f_X12_isGood Γ M v0).bind fun r13 =>
  if r13 = 0 then
    (some ((v1, M)))
  else
    some ((v3, M))
def f_X12_numeral_53 (Γ : rhG) (M : rhM) (v0 : Nat) (v1 : Int32) : Option (Int32 × rhM) :=
  rhck (Γ.2.2.1 v0 = 13) <|
  let x9 := M.1 v0 9
  (f_X12_isGood Γ M v0).bind fun r10 =>
  if r10 = 0 then
    (f_X12_numeral_69 Γ M v0 v1 x9)
  else
    (f_X12_goOn Γ M v0).bind fun r15 =>
    f_X12_numeral_69 Γ r15 v0 v1 x9
def f_X12_numeral_44 (k53 : rhM → Nat → Int32 → Option (Int32 × rhM)) (Γ : rhG) (M : rhM) (v0 : Nat) (v1 : Int32) : Option (Int32 × rhM) :=
  rhck (Γ.2.2.1 v0 = 13) <|
  (f_X12_fails Γ M v0 (4 : Int32) (M.1 v0 6)).bind fun r18 =>
  k53 r18 v0 v1
def f_X12_numeral_21 (Γ : rhG) (M : rhM) (v0 : Nat) (v1 : Int32) (v2 : Int32) : Option (Int32 × rhM) :=
  rhck (Γ.2.2.1 v0 = 13) <|
  (f_X12_isGood Γ M v0).bind fun r6 =>
  if r6 = 0 then
    (f_X12_numeral_53 Γ M v0 v1)
  else
    if (M.1 v0 9) < v1 then
      (f_X12_numeral_44 (f_X12_numeral_53 Γ) Γ M v0 v1)
    else
      if v2 < (M.1 v0 9) then
        (f_X12_numeral_44 (f_X12_numeral_53 Γ) Γ M v0 v1)
      else
        f_X12_numeral_53 Γ M v0 v1
def f_X12_numeral (Γ : rhG) (M : rhM) (v0 : Nat) (v1 : Int32) (v2 : Int32) : Option (Int32 × rhM) :=
  rhck (Γ.2.2.1 v0 = 13) <|
  (f_X12_isGood Γ M v0).bind fun r2 =>
  if r2 = 0 then
    (some ((v1, M)))
  else
    if (M.1 v0 8) = 4 then
      (f_X12_numeral_21 Γ M v0 v1 v2)
    else
      (f_X12_misplaced Γ M v0).bind fun r20 =>
      f_X12_numeral_21 Γ r20 v0 v1 v2
set_option maxHeartbeats 4000000 in
set_option maxRecDepth 100000 in
theorem b_X12_numeral_69 {E : rhE} {Γ : rhG} : ∀ (M : rhM) (v0 : Nat) (v1 : Int32) (v3 : Int32), rhF E 6 4 yX12_numeral cX12_numeral (some .int) Γ (rhe1I Γ) (f_X12_numeral_69 Γ M v0 v1 v3) 69 [(0, rhR v0), (1, rhI v1), (3, rhI v3)] [] Γ M := by
  intro M v0 v1 v3
  rw [f_X12_numeral_69]
  refine rhF.aload_n (pc := 69) dX12_numeral_69 0 rfl ?_
  refine rhF.ck (fun h12 => ?_)
  refine rhF.callV (pc := 70) (ci := 12) (embc := rhe0I _ _) [] dX12_numeral_70 ml_X12_294 mv_X12_isGood ⟨_, rfl, rfl⟩ h12 (c_X12_isGood _ _ _ _) (by decide) (by decide) rfl (Nat.le_of_ble_eq_true rfl) (fun r13 _ => ?_)
  refine rhF.if_eq (pc := 73) 80 dX12_numeral_73 (by decide) (fun h14 => ?_) (fun h14 => ?_)
  · refine rhF.iload_n (pc := 80) dX12_numeral_80 1 rfl ?_
    exact rhF.zret (pc := 81) dX12_numeral_81 rfl rfl rfl
  · refine rhF.iload_n (pc := 76) dX12_numeral_76 2 rfl ?_
    refine rhF.goto (pc := 77) 81 dX12_numeral_77 (by decide) ?_
    exact rhF.zret (pc := 81) dX12_numeral_81 rfl rfl rfl
set_option maxHeartbeats 4000000 in
set_option maxRecDepth 100000 in
theorem b_X12_numeral_53 {E : rhE} {Γ : rhG} : ∀ (M : rhM) (v0 : Nat) (v1 : Int32), rhF E 6 4 yX12_numeral cX12_numeral (some .int) Γ (rhe1I Γ) (f_X12_numeral_53 Γ M v0 v1) 53 [(0, rhR v0), (1, rhI v1)] [] Γ M := by
  intro M v0 v1
  rw [f_X12_numeral_53]
  refine rhF.aload_n (pc := 53) dX12_numeral_53 0 rfl ?_
  refine rhF.ck (fun h8 => ?_)
  refine rhF.get (pc := 54) (rhI _) dX12_numeral_54 fl_X12_284 h8 rfl ?_
  refine rhF.istore_n (pc := 57) (L' := [(3, rhI _), (0, rhR _), (1, rhI _)]) dX12_numeral_57 (by decide) rfl ?_
  refine rhF.aload_n (pc := 58) dX12_numeral_58 1 rfl ?_
  refine rhF.callV (pc := 59) (ci := 12) (embc := rhe0I _ _) [] dX12_numeral_59 ml_X12_294 mv_X12_isGood ⟨_, rfl, rfl⟩ h8 (c_X12_isGood _ _ _ _) (by decide) (by decide) rfl (Nat.le_of_ble_eq_true rfl) (fun r10 _ => ?_)
  refine rhF.if_eq (pc := 62) 69 dX12_numeral_62 (by decide) (fun h11 => ?_) (fun h11 => ?_)
  · refine rhF.sub [1, 2, 0] rfl ?_
    exact (b_X12_numeral_69) _ _ _ _
  · refine rhF.aload_n (pc := 65) dX12_numeral_65 1 rfl ?_
    refine rhF.callV (pc := 66) (ci := 12) (embc := rhe1U _) [] dX12_numeral_66 ml_X12_298 mv_X12_goOn ⟨_, rfl, rfl⟩ h8 (c_X12_goOn _ _ _ _) (by decide) (by decide) rfl (Nat.le_of_ble_eq_true rfl) (fun r15 _ => ?_)
    refine rhF.sub [1, 2, 0] rfl ?_
    exact (b_X12_numeral_69) _ _ _ _
set_option maxHeartbeats 4000000 in
set_option maxRecDepth 100000 in
theorem b_X12_numeral_44 {E : rhE} {Γ : rhG} {k53 : rhM → Nat → Int32 → Option (Int32 × rhM)} (hk53 : ∀ (M : rhM) (v0 : Nat) (v1 : Int32), rhF E 6 4 yX12_numeral cX12_numeral (some .int) Γ (rhe1I Γ) (k53 M v0 v1) 53 [(0, rhR v0), (1, rhI v1)] [] Γ M) : ∀ (M : rhM) (v0 : Nat) (v1 : Int32), rhF E 6 4 yX12_numeral cX12_numeral (some .int) Γ (rhe1I Γ) (f_X12_numeral_44 k53 Γ M v0 v1) 44 [(0, rhR v0), (1, rhI v1)] [] Γ M := by
  intro M v0 v1
  rw [f_X12_numeral_44]
  refine rhF.aload_n (pc := 44) dX12_numeral_44 0 rfl ?_
  refine rhF.iconst (pc := 45) (v := 4) dX12_numeral_45 (by decide) ?_
  refine rhF.aload_n (pc := 46) dX12_numeral_46 0 rfl ?_
  refine rhF.ck (fun h17 => ?_)
  refine rhF.get (pc := 47) (rhI _) dX12_numeral_47 fl_X12_259 h17 rfl ?_
  refine rhF.callV (pc := 50) (ci := 12) (embc := rhe1U _) [rhI _, rhI _] dX12_numeral_50 ml_X12_290 mv_X12_fails ⟨_, rfl, rfl⟩ h17 (c_X12_fails _ _ _ _ _ _) (by decide) (by decide) rfl (Nat.le_of_ble_eq_true rfl) (fun r18 _ => ?_)
  exact hk53 _ _ _
set_option maxHeartbeats 4000000 in
set_option maxRecDepth 100000 in
theorem b_X12_numeral_21 {E : rhE} {Γ : rhG} : ∀ (M : rhM) (v0 : Nat) (v1 : Int32) (v2 : Int32), rhF E 6 4 yX12_numeral cX12_numeral (some .int) Γ (rhe1I Γ) (f_X12_numeral_21 Γ M v0 v1 v2) 21 [(0, rhR v0), (1, rhI v1), (2, rhI v2)] [] Γ M := by
  intro M v0 v1 v2
  rw [f_X12_numeral_21]
  refine rhF.aload_n (pc := 21) dX12_numeral_21 0 rfl ?_
  refine rhF.ck (fun h5 => ?_)
  refine rhF.callV (pc := 22) (ci := 12) (embc := rhe0I _ _) [] dX12_numeral_22 ml_X12_294 mv_X12_isGood ⟨_, rfl, rfl⟩ h5 (c_X12_isGood _ _ _ _) (by decide) (by decide) rfl (Nat.le_of_ble_eq_true rfl) (fun r6 _ => ?_)
  refine rhF.if_eq (pc := 25) 53 dX12_numeral_25 (by decide) (fun h7 => ?_) (fun h7 => ?_)
  · refine rhF.sub [0, 1] rfl ?_
    exact (b_X12_numeral_53) _ _ _
  · refine rhF.aload_n (pc := 28) dX12_numeral_28 0 rfl ?_
    refine rhF.get (pc := 29) (rhI _) dX12_numeral_29 fl_X12_284 h5 rfl ?_
    refine rhF.iload_n (pc := 32) dX12_numeral_32 1 rfl ?_
    refine rhF.icmp_lt (pc := 33) 44 dX12_numeral_33 (by decide) (fun h16 => ?_) (fun h16 => ?_)
    · refine rhF.sub [0, 1] rfl ?_
      exact (b_X12_numeral_44 (b_X12_numeral_53)) _ _ _
    · refine rhF.aload_n (pc := 36) dX12_numeral_36 0 rfl ?_
      refine rhF.get (pc := 37) (rhI _) dX12_numeral_37 fl_X12_284 h5 rfl ?_
      refine rhF.iload_n (pc := 40) dX12_numeral_40 2 rfl ?_
      refine rhF.icmp_le (pc := 41) 53 dX12_numeral_41 (by decide) (fun h19 => ?_) (fun h19 => ?_)
      · refine rhF.sub [0, 1] rfl ?_
        exact (b_X12_numeral_44 (b_X12_numeral_53)) _ _ _
      · refine rhF.sub [0, 1] rfl ?_
        exact (b_X12_numeral_53) _ _ _
set_option maxHeartbeats 4000000 in
set_option maxRecDepth 100000 in
theorem b_X12_numeral {E : rhE} {Γ : rhG} : ∀ (M : rhM) (v0 : Nat) (v1 : Int32) (v2 : Int32), rhF E 6 4 yX12_numeral cX12_numeral (some .int) Γ (rhe1I Γ) (f_X12_numeral Γ M v0 v1 v2) 0 [(0, rhR v0), (1, rhI v1), (2, rhI v2)] [] Γ M := by
  intro M v0 v1 v2
  rw [f_X12_numeral]
  refine rhF.aload_n (pc := 0) dX12_numeral_0 0 rfl ?_
  refine rhF.ck (fun h1 => ?_)
  refine rhF.callV (pc := 1) (ci := 12) (embc := rhe0I _ _) [] dX12_numeral_1 ml_X12_294 mv_X12_isGood ⟨_, rfl, rfl⟩ h1 (c_X12_isGood _ _ _ _) (by decide) (by decide) rfl (Nat.le_of_ble_eq_true rfl) (fun r2 _ => ?_)
  refine rhF.if_ne (pc := 4) 9 dX12_numeral_4 (by decide) (fun h3 => ?_) (fun h3 => ?_)
  · refine rhF.iload_n (pc := 7) dX12_numeral_7 1 rfl ?_
    exact rhF.zret (pc := 8) dX12_numeral_8 rfl rfl rfl
  · refine rhF.aload_n (pc := 9) dX12_numeral_9 0 rfl ?_
    refine rhF.get (pc := 10) (rhI _) dX12_numeral_10 fl_X12_266 h1 rfl ?_
    refine rhF.iconst (pc := 13) (v := 4) dX12_numeral_13 (by decide) ?_
    refine rhF.icmp_eq (pc := 14) 21 dX12_numeral_14 (by decide) (fun h4 => ?_) (fun h4 => ?_)
    · exact (b_X12_numeral_21) _ _ _ _
    · refine rhF.aload_n (pc := 17) dX12_numeral_17 0 rfl ?_
      refine rhF.callV (pc := 18) (ci := 12) (embc := rhe1U _) [] dX12_numeral_18 ml_X12_301 mv_X12_misplaced ⟨_, rfl, rfl⟩ h1 (c_X12_misplaced _ _ _ _) (by decide) (by decide) rfl (Nat.le_of_ble_eq_true rfl) (fun r20 _ => ?_)
      exact (b_X12_numeral_21) _ _ _ _
theorem c_X12_numeral (E : rhE) (Γ : rhG) (M : rhM) (v0 : Nat) (v1 : Int32) (v2 : Int32) : ∀ a, f_X12_numeral Γ M v0 v1 v2 = some a → rhC E 6 yX12_numeral cX12_numeral 4 (some .int) [rhR v0, rhI v1, rhI v2] Γ M ((rhe1I Γ) a) := rhF.met (by decide +kernel) (Nat.le_of_ble_eq_true rfl) (b_X12_numeral M v0 v1 v2)
def f_X12_after (Γ : rhG) (M : rhM) (v0 : Nat) (v1 : Int64) (v3 : Int32) (v4 : Int32) : Option (Int32 × rhM) :=
  rhck (Γ.2.2.1 v0 = 13) <|
  (f_X12_isWord Γ M v0 v1).bind fun r2 =>
  (f_X12_must Γ M v0 r2).bind fun r3 =>
  (f_X12_numeral Γ r3 v0 v3 v4).bind fun r4 =>
  some ((r4.1, r4.2))
set_option maxHeartbeats 4000000 in
set_option maxRecDepth 100000 in
theorem b_X12_after {E : rhE} {Γ : rhG} : ∀ (M : rhM) (v0 : Nat) (v1 : Int64) (v3 : Int32) (v4 : Int32), rhF E 7 5 yX12_after cX12_after (some .int) Γ (rhe1I Γ) (f_X12_after Γ M v0 v1 v3 v4) 0 [(0, rhR v0), (1, rhJ v1), (3, rhI v3), (4, rhI v4)] [] Γ M := by
  intro M v0 v1 v3 v4
  rw [f_X12_after]
  refine rhF.aload_n (pc := 0) dX12_after_0 0 rfl ?_
  refine rhF.aload_n (pc := 1) dX12_after_1 0 rfl ?_
  refine rhF.lload_n (pc := 2) dX12_after_2 1 rfl ?_
  refine rhF.ck (fun h1 => ?_)
  refine rhF.callV (pc := 3) (ci := 12) (embc := rhe0I _ _) [rhJ _] dX12_after_3 ml_X12_304 mv_X12_isWord ⟨_, rfl, rfl⟩ h1 (c_X12_isWord _ _ _ _ _) (by decide) (by decide) rfl (Nat.le_of_ble_eq_true rfl) (fun r2 _ => ?_)
  refine rhF.callV (pc := 6) (ci := 12) (embc := rhe1U _) [rhI _] dX12_after_6 ml_X12_307 mv_X12_must ⟨_, rfl, rfl⟩ h1 (c_X12_must _ _ _ _ _) (by decide) (by decide) rfl (Nat.le_of_ble_eq_true rfl) (fun r3 _ => ?_)
  refine rhF.aload_n (pc := 9) dX12_after_9 0 rfl ?_
  refine rhF.iload_n (pc := 10) dX12_after_10 2 rfl ?_
  refine rhF.iload (pc := 11) dX12_after_11 3 rfl ?_
  refine rhF.callV (pc := 13) (ci := 12) (embc := rhe1I _) [rhI _, rhI _] dX12_after_13 ml_X12_311 mv_X12_numeral ⟨_, rfl, rfl⟩ h1 (c_X12_numeral _ _ _ _ _ _) (by decide) (by decide) rfl (Nat.le_of_ble_eq_true rfl) (fun r4 _ => ?_)
  exact rhF.zret (pc := 16) dX12_after_16 rfl rfl rfl
theorem c_X12_after (E : rhE) (Γ : rhG) (M : rhM) (v0 : Nat) (v1 : Int64) (v3 : Int32) (v4 : Int32) : ∀ a, f_X12_after Γ M v0 v1 v3 v4 = some a → rhC E 7 yX12_after cX12_after 5 (some .int) [rhR v0, rhJ v1, rhI v3, rhI v4] Γ M ((rhe1I Γ) a) := rhF.met (by decide +kernel) (Nat.le_of_ble_eq_true rfl) (b_X12_after M v0 v1 v3 v4)
def f_X12_beginOf (Γ : rhG) (M : rhM) (v0 : Nat) (v1 : Int32) : Option (Int32) :=
  if v1 = 0 then
    (some 0)
  else
    rhck (Γ.2.2.1 v0 = 13) <|
    rhck (Γ.2.2.1 (M.2.2 v0 40) = 15) <|
    rhck (0 ≤ (v1 - 1).toInt ∧ (v1 - 1).toInt < (Γ.2.2.2 (M.2.2 v0 40) : Nat)) <|
    some (M.1 (M.2.2 v0 40) (v1 - 1).toNatClampNeg)
set_option maxHeartbeats 4000000 in
set_option maxRecDepth 100000 in
theorem b_X12_beginOf {E : rhE} {Γ : rhG} {M : rhM} : ∀ (v0 : Nat) (v1 : Int32), rhF E 1 2 yX12_beginOf cX12_beginOf (some .int) Γ (rhe0I Γ M) (f_X12_beginOf Γ M v0 v1) 0 [(0, rhR v0), (1, rhI v1)] [] Γ M := by
  intro v0 v1
  rw [f_X12_beginOf]
  refine rhF.iload_n (pc := 0) dX12_beginOf_0 1 rfl ?_
  refine rhF.if_ne (pc := 1) 8 dX12_beginOf_1 (by decide) (fun h1 => ?_) (fun h1 => ?_)
  · refine rhF.iconst (pc := 4) (v := 0) dX12_beginOf_4 (by decide) ?_
    refine rhF.goto (pc := 5) 16 dX12_beginOf_5 (by decide) ?_
    exact rhF.zret (pc := 16) dX12_beginOf_16 rfl rfl rfl
  · refine rhF.aload_n (pc := 8) dX12_beginOf_8 0 rfl ?_
    refine rhF.ck (fun h2 => ?_)
    refine rhF.get (pc := 9) (rhR _) dX12_beginOf_9 fl_X12_95 h2 rfl ?_
    refine rhF.iload_n (pc := 12) dX12_beginOf_12 1 rfl ?_
    refine rhF.iconst (pc := 13) (v := 1) dX12_beginOf_13 (by decide) ?_
    refine rhF.isub (pc := 14) dX12_beginOf_14 ?_
    refine rhF.ck (fun h3 => ?_)
    refine rhF.ck (fun h4 => ?_)
    refine rhF.iald (pc := 15) dX12_beginOf_15 h3 h4 ?_
    exact rhF.zret (pc := 16) dX12_beginOf_16 rfl rfl rfl
theorem c_X12_beginOf (E : rhE) (Γ : rhG) (M : rhM) (v0 : Nat) (v1 : Int32) : ∀ a, f_X12_beginOf Γ M v0 v1 = some a → rhC E 1 yX12_beginOf cX12_beginOf 2 (some .int) [rhR v0, rhI v1] Γ M ((rhe0I Γ M) a) := rhF.met (by decide +kernel) (Nat.le_of_ble_eq_true rfl) (b_X12_beginOf v0 v1)
def f_X12_roomOn_37 (Γ : rhG) (M : rhM) : Nat → Nat → Int32 → Int32 → Int32 → Option (Int32)
  | 0, _, _, _, _ => none
  | n + 1, v0, v1, v2, v3 =>
    rhck (Γ.2.2.1 v0 = 13) <|
    rhck (Γ.2.2.1 (M.2.2 v0 40) = 15) <|
    rhck (0 ≤ (v1).toInt ∧ (v1).toInt < (Γ.2.2.2 (M.2.2 v0 40) : Nat)) <|
    if v3 < (M.1 (M.2.2 v0 40) v1.toNatClampNeg) then
      (rhck (Γ.2.2.1 (M.2.2 v0 39) = 15) <|
      rhck (0 ≤ (v3).toInt ∧ (v3).toInt < (Γ.2.2.2 (M.2.2 v0 39) : Nat)) <|
      rhck (Γ.2.2.1 (M.2.2 v0 19) = 15) <|
      rhck (0 ≤ ((8 * (M.1 v0 34)) + (M.1 (M.2.2 v0 39) v3.toNatClampNeg)).toInt ∧ ((8 * (M.1 v0 34)) + (M.1 (M.2.2 v0 39) v3.toNatClampNeg)).toInt < (Γ.2.2.2 (M.2.2 v0 19) : Nat)) <|
      let x16 := v2 - (M.1 (M.2.2 v0 19) ((8 * (M.1 v0 34)) + (M.1 (M.2.2 v0 39) v3.toNatClampNeg)).toNatClampNeg)
      let x17 : Int32 := v3 + 1
      f_X12_roomOn_37 Γ M n v0 v1 x16 x17)
    else
      some v2
def f_X12_roomOn_29 (Γ : rhG) (M : rhM) (v0 : Nat) (v1 : Int32) (s0 : Int32) (s1 : Int32) : Option (Int32) :=
  let x5 := s0 + s1
  rhck (Γ.2.2.1 v0 = 13) <|
  (f_X12_beginOf Γ M v0 v1).bind fun r7 =>
  f_X12_roomOn_37 Γ M rhFU v0 v1 x5 r7
def f_X12_roomOn (Γ : rhG) (M : rhM) (v0 : Nat) (v1 : Int32) : Option (Int32) :=
  rhck (Γ.2.2.1 v0 = 13) <|
  rhck (Γ.2.2.1 (M.2.2 v0 18) = 15) <|
  rhck (0 ≤ ((5 * (M.1 v0 34)) + v1).toInt ∧ ((5 * (M.1 v0 34)) + v1).toInt < (Γ.2.2.2 (M.2.2 v0 18) : Nat)) <|
  if v1 = (M.1 v0 44) then
    (f_X12_roomOn_29 Γ M v0 v1 (M.1 (M.2.2 v0 18) ((5 * (M.1 v0 34)) + v1).toNatClampNeg) (M.1 v0 45))
  else
    f_X12_roomOn_29 Γ M v0 v1 (M.1 (M.2.2 v0 18) ((5 * (M.1 v0 34)) + v1).toNatClampNeg) 0
set_option maxHeartbeats 4000000 in
set_option maxRecDepth 100000 in
theorem b_X12_roomOn_37 {E : rhE} {Γ : rhG} {M : rhM} : ∀ (n : Nat) (v0 : Nat) (v1 : Int32) (v2 : Int32) (v3 : Int32), rhF E 5 4 yX12_roomOn cX12_roomOn (some .int) Γ (rhe0I Γ M) (f_X12_roomOn_37 Γ M n v0 v1 v2 v3) 37 [(0, rhR v0), (1, rhI v1), (2, rhI v2), (3, rhI v3)] [] Γ M := by
  intro n
  induction n with
  | zero => intro v0 v1 v2 v3; rw [f_X12_roomOn_37]; exact rhF.nope
  | succ n ih =>
    intro v0 v1 v2 v3
    rw [f_X12_roomOn_37]
    refine rhF.iload_n (pc := 37) dX12_roomOn_37 3 rfl ?_
    refine rhF.aload_n (pc := 38) dX12_roomOn_38 0 rfl ?_
    refine rhF.ck (fun h8 => ?_)
    refine rhF.get (pc := 39) (rhR _) dX12_roomOn_39 fl_X12_95 h8 rfl ?_
    refine rhF.iload_n (pc := 42) dX12_roomOn_42 1 rfl ?_
    refine rhF.ck (fun h9 => ?_)
    refine rhF.ck (fun h10 => ?_)
    refine rhF.iald (pc := 43) dX12_roomOn_43 h9 h10 ?_
    refine rhF.icmp_ge (pc := 44) 75 dX12_roomOn_44 (by decide) (fun h11 => ?_) (fun h11 => ?_)
    · refine rhF.iload_n (pc := 47) dX12_roomOn_47 2 rfl ?_
      refine rhF.aload_n (pc := 48) dX12_roomOn_48 0 rfl ?_
      refine rhF.get (pc := 49) (rhR _) dX12_roomOn_49 fl_X12_45 h8 rfl ?_
      refine rhF.bipush (pc := 52) (v := 8) dX12_roomOn_52 (by decide) ?_
      refine rhF.aload_n (pc := 54) dX12_roomOn_54 0 rfl ?_
      refine rhF.get (pc := 55) (rhI _) dX12_roomOn_55 fl_X12_327 h8 rfl ?_
      refine rhF.imul (pc := 58) dX12_roomOn_58 ?_
      refine rhF.aload_n (pc := 59) dX12_roomOn_59 0 rfl ?_
      refine rhF.get (pc := 60) (rhR _) dX12_roomOn_60 fl_X12_92 h8 rfl ?_
      refine rhF.iload_n (pc := 63) dX12_roomOn_63 3 rfl ?_
      refine rhF.ck (fun h12 => ?_)
      refine rhF.ck (fun h13 => ?_)
      refine rhF.iald (pc := 64) dX12_roomOn_64 h12 h13 ?_
      refine rhF.iadd (pc := 65) dX12_roomOn_65 ?_
      refine rhF.ck (fun h14 => ?_)
      refine rhF.ck (fun h15 => ?_)
      refine rhF.iald (pc := 66) dX12_roomOn_66 h14 h15 ?_
      refine rhF.isub (pc := 67) dX12_roomOn_67 ?_
      refine rhF.istore_n (pc := 68) (L' := [(2, rhI _), (0, rhR _), (1, rhI _), (3, rhI _)]) dX12_roomOn_68 (by decide) rfl ?_
      refine rhF.iinc (pc := 69) (L' := [(3, rhI _), (2, rhI _), (0, rhR _), (1, rhI _)]) dX12_roomOn_69 3 rfl rfl (by decide) rfl ?_
      refine rhF.goto (pc := 72) 37 dX12_roomOn_72 (by decide) ?_
      refine rhF.sub [2, 3, 1, 0] rfl ?_
      exact ih _ _ _ _
    · refine rhF.iload_n (pc := 75) dX12_roomOn_75 2 rfl ?_
      exact rhF.zret (pc := 76) dX12_roomOn_76 rfl rfl rfl
set_option maxHeartbeats 4000000 in
set_option maxRecDepth 100000 in
theorem b_X12_roomOn_29 {E : rhE} {Γ : rhG} {M : rhM} : ∀ (v0 : Nat) (v1 : Int32) (s0 : Int32) (s1 : Int32), rhF E 5 4 yX12_roomOn cX12_roomOn (some .int) Γ (rhe0I Γ M) (f_X12_roomOn_29 Γ M v0 v1 s0 s1) 29 [(0, rhR v0), (1, rhI v1)] [rhI s1, rhI s0] Γ M := by
  intro v0 v1 s0 s1
  rw [f_X12_roomOn_29]
  refine rhF.iadd (pc := 29) dX12_roomOn_29 ?_
  refine rhF.istore_n (pc := 30) (L' := [(2, rhI _), (0, rhR _), (1, rhI _)]) dX12_roomOn_30 (by decide) rfl ?_
  refine rhF.aload_n (pc := 31) dX12_roomOn_31 1 rfl ?_
  refine rhF.iload_n (pc := 32) dX12_roomOn_32 2 rfl ?_
  refine rhF.ck (fun h6 => ?_)
  refine rhF.callV (pc := 33) (ci := 12) (embc := rhe0I _ _) [rhI _] dX12_roomOn_33 ml_X12_425 mv_X12_beginOf ⟨_, rfl, rfl⟩ h6 (c_X12_beginOf _ _ _ _ _) (by decide) (by decide) rfl (Nat.le_of_ble_eq_true rfl) (fun r7 _ => ?_)
  refine rhF.istore_n (pc := 36) (L' := [(3, rhI _), (2, rhI _), (0, rhR _), (1, rhI _)]) dX12_roomOn_36 (by decide) rfl ?_
  refine rhF.sub [2, 3, 1, 0] rfl ?_
  exact (b_X12_roomOn_37 rhFU) _ _ _ _
set_option maxHeartbeats 4000000 in
set_option maxRecDepth 100000 in
theorem b_X12_roomOn {E : rhE} {Γ : rhG} {M : rhM} : ∀ (v0 : Nat) (v1 : Int32), rhF E 5 4 yX12_roomOn cX12_roomOn (some .int) Γ (rhe0I Γ M) (f_X12_roomOn Γ M v0 v1) 0 [(0, rhR v0), (1, rhI v1)] [] Γ M := by
  intro v0 v1
  rw [f_X12_roomOn]
  refine rhF.aload_n (pc := 0) dX12_roomOn_0 0 rfl ?_
  refine rhF.ck (fun h1 => ?_)
  refine rhF.get (pc := 1) (rhR _) dX12_roomOn_1 fl_X12_42 h1 rfl ?_
  refine rhF.iconst (pc := 4) (v := 5) dX12_roomOn_4 (by decide) ?_
  refine rhF.aload_n (pc := 5) dX12_roomOn_5 0 rfl ?_
  refine rhF.get (pc := 6) (rhI _) dX12_roomOn_6 fl_X12_327 h1 rfl ?_
  refine rhF.imul (pc := 9) dX12_roomOn_9 ?_
  refine rhF.iload_n (pc := 10) dX12_roomOn_10 1 rfl ?_
  refine rhF.iadd (pc := 11) dX12_roomOn_11 ?_
  refine rhF.ck (fun h2 => ?_)
  refine rhF.ck (fun h3 => ?_)
  refine rhF.iald (pc := 12) dX12_roomOn_12 h2 h3 ?_
  refine rhF.iload_n (pc := 13) dX12_roomOn_13 1 rfl ?_
  refine rhF.aload_n (pc := 14) dX12_roomOn_14 0 rfl ?_
  refine rhF.get (pc := 15) (rhI _) dX12_roomOn_15 fl_X12_107 h1 rfl ?_
  refine rhF.icmp_ne (pc := 18) 28 dX12_roomOn_18 (by decide) (fun h4 => ?_) (fun h4 => ?_)
  · refine rhF.aload_n (pc := 21) dX12_roomOn_21 0 rfl ?_
    refine rhF.get (pc := 22) (rhI _) dX12_roomOn_22 fl_X12_422 h1 rfl ?_
    refine rhF.goto (pc := 25) 29 dX12_roomOn_25 (by decide) ?_
    exact (b_X12_roomOn_29) _ _ _ _
  · refine rhF.iconst (pc := 28) (v := 0) dX12_roomOn_28 (by decide) ?_
    exact (b_X12_roomOn_29) _ _ _ _
theorem c_X12_roomOn (E : rhE) (Γ : rhG) (M : rhM) (v0 : Nat) (v1 : Int32) : ∀ a, f_X12_roomOn Γ M v0 v1 = some a → rhC E 5 yX12_roomOn cX12_roomOn 4 (some .int) [rhR v0, rhI v1] Γ M ((rhe0I Γ M) a) := rhF.met (by decide +kernel) (Nat.le_of_ble_eq_true rfl) (b_X12_roomOn v0 v1)
def f_X12_sumOf_13 (Γ : rhG) (M : rhM) : Nat → Nat → Nat → Int32 → Int32 → Int32 → Option (Int32)
  | 0, _, _, _, _, _ => none
  | n + 1, v0, v1, v2, v4, v5 =>
    rhck (Γ.2.2.1 v0 = 13) <|
    rhck (Γ.2.2.1 (M.2.2 v0 40) = 15) <|
    rhck (0 ≤ (v2).toInt ∧ (v2).toInt < (Γ.2.2.2 (M.2.2 v0 40) : Nat)) <|
    if v5 < (M.1 (M.2.2 v0 40) v2.toNatClampNeg) then
      (rhck (Γ.2.2.1 (M.2.2 v0 39) = 15) <|
      rhck (0 ≤ (v5).toInt ∧ (v5).toInt < (Γ.2.2.2 (M.2.2 v0 39) : Nat)) <|
      rhck (Γ.2.2.1 v1 = 15) <|
      rhck (0 ≤ ((8 * (M.1 v0 34)) + (M.1 (M.2.2 v0 39) v5.toNatClampNeg)).toInt ∧ ((8 * (M.1 v0 34)) + (M.1 (M.2.2 v0 39) v5.toNatClampNeg)).toInt < (Γ.2.2.2 v1 : Nat)) <|
      let x13 := v4 + (M.1 v1 ((8 * (M.1 v0 34)) + (M.1 (M.2.2 v0 39) v5.toNatClampNeg)).toNatClampNeg)
      let x14 : Int32 := v5 + 1
      f_X12_sumOf_13 Γ M n v0 v1 v2 x13 x14)
    else
      some v4
def f_X12_sumOf (Γ : rhG) (M : rhM) (v0 : Nat) (v1 : Nat) (v2 : Int32) (v3 : Int32) : Option (Int32) :=
  rhck (Γ.2.2.1 v0 = 13) <|
  rhck (Γ.2.2.1 (M.2.2 v0 40) = 15) <|
  rhck (0 ≤ (v2).toInt ∧ (v2).toInt < (Γ.2.2.2 (M.2.2 v0 40) : Nat)) <|
  let x4 := (M.1 (M.2.2 v0 40) v2.toNatClampNeg) - v3
  f_X12_sumOf_13 Γ M rhFU v0 v1 v2 0 x4
set_option maxHeartbeats 4000000 in
set_option maxRecDepth 100000 in
theorem b_X12_sumOf_13 {E : rhE} {Γ : rhG} {M : rhM} : ∀ (n : Nat) (v0 : Nat) (v1 : Nat) (v2 : Int32) (v4 : Int32) (v5 : Int32), rhF E 1 6 yX12_sumOf cX12_sumOf (some .int) Γ (rhe0I Γ M) (f_X12_sumOf_13 Γ M n v0 v1 v2 v4 v5) 13 [(0, rhR v0), (1, rhR v1), (2, rhI v2), (4, rhI v4), (5, rhI v5)] [] Γ M := by
  intro n
  induction n with
  | zero => intro v0 v1 v2 v4 v5; rw [f_X12_sumOf_13]; exact rhF.nope
  | succ n ih =>
    intro v0 v1 v2 v4 v5
    rw [f_X12_sumOf_13]
    refine rhF.iload (pc := 13) dX12_sumOf_13 4 rfl ?_
    refine rhF.aload_n (pc := 15) dX12_sumOf_15 0 rfl ?_
    refine rhF.ck (fun h5 => ?_)
    refine rhF.get (pc := 16) (rhR _) dX12_sumOf_16 fl_X12_95 h5 rfl ?_
    refine rhF.iload_n (pc := 19) dX12_sumOf_19 2 rfl ?_
    refine rhF.ck (fun h6 => ?_)
    refine rhF.ck (fun h7 => ?_)
    refine rhF.iald (pc := 20) dX12_sumOf_20 h6 h7 ?_
    refine rhF.icmp_ge (pc := 21) 52 dX12_sumOf_21 (by decide) (fun h8 => ?_) (fun h8 => ?_)
    · refine rhF.iload (pc := 24) dX12_sumOf_24 3 rfl ?_
      refine rhF.aload_n (pc := 26) dX12_sumOf_26 1 rfl ?_
      refine rhF.bipush (pc := 27) (v := 8) dX12_sumOf_27 (by decide) ?_
      refine rhF.aload_n (pc := 29) dX12_sumOf_29 0 rfl ?_
      refine rhF.get (pc := 30) (rhI _) dX12_sumOf_30 fl_X12_327 h5 rfl ?_
      refine rhF.imul (pc := 33) dX12_sumOf_33 ?_
      refine rhF.aload_n (pc := 34) dX12_sumOf_34 0 rfl ?_
      refine rhF.get (pc := 35) (rhR _) dX12_sumOf_35 fl_X12_92 h5 rfl ?_
      refine rhF.iload (pc := 38) dX12_sumOf_38 4 rfl ?_
      refine rhF.ck (fun h9 => ?_)
      refine rhF.ck (fun h10 => ?_)
      refine rhF.iald (pc := 40) dX12_sumOf_40 h9 h10 ?_
      refine rhF.iadd (pc := 41) dX12_sumOf_41 ?_
      refine rhF.ck (fun h11 => ?_)
      refine rhF.ck (fun h12 => ?_)
      refine rhF.iald (pc := 42) dX12_sumOf_42 h11 h12 ?_
      refine rhF.iadd (pc := 43) dX12_sumOf_43 ?_
      refine rhF.istore (pc := 44) (L' := [(4, rhI _), (0, rhR _), (1, rhR _), (2, rhI _), (5, rhI _)]) dX12_sumOf_44 (by decide) rfl ?_
      refine rhF.iinc (pc := 46) (L' := [(5, rhI _), (4, rhI _), (0, rhR _), (1, rhR _), (2, rhI _)]) dX12_sumOf_46 4 rfl rfl (by decide) rfl ?_
      refine rhF.goto (pc := 49) 13 dX12_sumOf_49 (by decide) ?_
      refine rhF.sub [2, 3, 4, 1, 0] rfl ?_
      exact ih _ _ _ _ _
    · refine rhF.iload (pc := 52) dX12_sumOf_52 3 rfl ?_
      exact rhF.zret (pc := 54) dX12_sumOf_54 rfl rfl rfl
set_option maxHeartbeats 4000000 in
set_option maxRecDepth 100000 in
theorem b_X12_sumOf {E : rhE} {Γ : rhG} {M : rhM} : ∀ (v0 : Nat) (v1 : Nat) (v2 : Int32) (v3 : Int32), rhF E 1 6 yX12_sumOf cX12_sumOf (some .int) Γ (rhe0I Γ M) (f_X12_sumOf Γ M v0 v1 v2 v3) 0 [(0, rhR v0), (1, rhR v1), (2, rhI v2), (3, rhI v3)] [] Γ M := by
  intro v0 v1 v2 v3
  rw [f_X12_sumOf]
  refine rhF.iconst (pc := 0) (v := 0) dX12_sumOf_0 (by decide) ?_
  refine rhF.istore (pc := 1) (L' := [(4, rhI _), (0, rhR _), (1, rhR _), (2, rhI _), (3, rhI _)]) dX12_sumOf_1 (by decide) rfl ?_
  refine rhF.aload_n (pc := 3) dX12_sumOf_3 1 rfl ?_
  refine rhF.ck (fun h1 => ?_)
  refine rhF.get (pc := 4) (rhR _) dX12_sumOf_4 fl_X12_95 h1 rfl ?_
  refine rhF.iload_n (pc := 7) dX12_sumOf_7 3 rfl ?_
  refine rhF.ck (fun h2 => ?_)
  refine rhF.ck (fun h3 => ?_)
  refine rhF.iald (pc := 8) dX12_sumOf_8 h2 h3 ?_
  refine rhF.iload_n (pc := 9) dX12_sumOf_9 4 rfl ?_
  refine rhF.isub (pc := 10) dX12_sumOf_10 ?_
  refine rhF.istore (pc := 11) (L' := [(5, rhI _), (4, rhI _), (0, rhR _), (1, rhR _), (2, rhI _), (3, rhI _)]) dX12_sumOf_11 (by decide) rfl ?_
  refine rhF.sub [2, 3, 4, 1, 0] rfl ?_
  exact (b_X12_sumOf_13 rhFU) _ _ _ _ _
theorem c_X12_sumOf (E : rhE) (Γ : rhG) (M : rhM) (v0 : Nat) (v1 : Nat) (v2 : Int32) (v3 : Int32) : ∀ a, f_X12_sumOf Γ M v0 v1 v2 v3 = some a → rhC E 1 yX12_sumOf cX12_sumOf 6 (some .int) [rhR v0, rhR v1, rhI v2, rhI v3] Γ M ((rhe0I Γ M) a) := rhF.met (by decide +kernel) (Nat.le_of_ble_eq_true rfl) (b_X12_sumOf v0 v1 v2 v3)
def f_X12_amount_145 (Γ : rhG) (M : rhM) : Nat → Nat → Int32 → Int32 → Int32 → Option (Int32)
  | 0, _, _, _, _ => none
  | n + 1, v0, v1, v2, v5 =>
    rhck (Γ.2.2.1 v0 = 13) <|
    rhck (Γ.2.2.1 (M.2.2 v0 40) = 15) <|
    rhck (0 ≤ (v2).toInt ∧ (v2).toInt < (Γ.2.2.2 (M.2.2 v0 40) : Nat)) <|
    if v5 < (M.1 (M.2.2 v0 40) v2.toNatClampNeg) then
      (rhck (Γ.2.2.1 (M.2.2 v0 39) = 15) <|
      rhck (0 ≤ (v5).toInt ∧ (v5).toInt < (Γ.2.2.2 (M.2.2 v0 39) : Nat)) <|
      rhck (Γ.2.2.1 (M.2.2 v0 30) = 15) <|
      rhck (0 ≤ (v1).toInt ∧ (v1).toInt < (Γ.2.2.2 (M.2.2 v0 30) : Nat)) <|
      if (M.1 (M.2.2 v0 39) v5.toNatClampNeg) = (M.1 (M.2.2 v0 30) v1.toNatClampNeg) then
        (some 1)
      else
        let x18 : Int32 := v5 + 1
        f_X12_amount_145 Γ M n v0 v1 v2 x18)
    else
      some 0
def f_X12_amount (Γ : rhG) (M : rhM) (v0 : Nat) (v1 : Int32) (v2 : Int32) (v3 : Int32) (v4 : Int32) : Option (Int32) :=
  rhck (Γ.2.2.1 v0 = 13) <|
  rhck (Γ.2.2.1 (M.2.2 v0 29) = 15) <|
  rhck (0 ≤ (v1).toInt ∧ (v1).toInt < (Γ.2.2.2 (M.2.2 v0 29) : Nat)) <|
  if (M.1 (M.2.2 v0 29) v1.toNatClampNeg) = 102 then
    (some v2)
  else
  if (M.1 (M.2.2 v0 29) v1.toNatClampNeg) = 103 then
    (rhck (Γ.2.2.1 (M.2.2 v0 40) = 15) <|
    rhck (0 ≤ (v2).toInt ∧ (v2).toInt < (Γ.2.2.2 (M.2.2 v0 40) : Nat)) <|
    let x8 := (M.1 (M.2.2 v0 40) v2.toNatClampNeg) - v3
    f_X12_amount_145 Γ M rhFU v0 v1 v2 x8)
  else
  if (M.1 (M.2.2 v0 29) v1.toNatClampNeg) = 104 then
    (rhck (Γ.2.2.1 (M.2.2 v0 40) = 15) <|
    rhck (0 ≤ (v2).toInt ∧ (v2).toInt < (Γ.2.2.2 (M.2.2 v0 40) : Nat)) <|
    let x22 := (M.1 (M.2.2 v0 40) v2.toNatClampNeg) - v3
    f_X12_amount_145 Γ M rhFU v0 v1 v2 x22)
  else
  if (M.1 (M.2.2 v0 29) v1.toNatClampNeg) = 105 then
    (rhck (Γ.2.2.1 (M.2.2 v0 40) = 15) <|
    rhck (0 ≤ (v2).toInt ∧ (v2).toInt < (Γ.2.2.2 (M.2.2 v0 40) : Nat)) <|
    let x26 := (M.1 (M.2.2 v0 40) v2.toNatClampNeg) - v3
    f_X12_amount_145 Γ M rhFU v0 v1 v2 x26)
  else
  if (M.1 (M.2.2 v0 29) v1.toNatClampNeg) = 106 then
    (rhck (Γ.2.2.1 (M.2.2 v0 40) = 15) <|
    rhck (0 ≤ (v2).toInt ∧ (v2).toInt < (Γ.2.2.2 (M.2.2 v0 40) : Nat)) <|
    let x30 := (M.1 (M.2.2 v0 40) v2.toNatClampNeg) - v3
    f_X12_amount_145 Γ M rhFU v0 v1 v2 x30)
  else
  if (M.1 (M.2.2 v0 29) v1.toNatClampNeg) = 107 then
    (rhck (Γ.2.2.1 (M.2.2 v0 40) = 15) <|
    rhck (0 ≤ (v2).toInt ∧ (v2).toInt < (Γ.2.2.2 (M.2.2 v0 40) : Nat)) <|
    let x34 := (M.1 (M.2.2 v0 40) v2.toNatClampNeg) - v3
    f_X12_amount_145 Γ M rhFU v0 v1 v2 x34)
  else
  if (M.1 (M.2.2 v0 29) v1.toNatClampNeg) = 108 then
    ((f_X12_sumOf Γ M v0 (M.2.2 v0 19) v2 v3).bind fun r36 =>
    some r36)
  else
  if (M.1 (M.2.2 v0 29) v1.toNatClampNeg) = 109 then
    (some v3)
  else
  if (M.1 (M.2.2 v0 29) v1.toNatClampNeg) = 110 then
    (rhck (Γ.2.2.1 (M.2.2 v0 30) = 15) <|
    rhck (0 ≤ (v1).toInt ∧ (v1).toInt < (Γ.2.2.2 (M.2.2 v0 30) : Nat)) <|
    some (M.1 (M.2.2 v0 30) v1.toNatClampNeg))
  else
  if (M.1 (M.2.2 v0 29) v1.toNatClampNeg) = 111 then
    (rhck (Γ.2.2.1 (M.2.2 v0 40) = 15) <|
    rhck (0 ≤ (v2).toInt ∧ (v2).toInt < (Γ.2.2.2 (M.2.2 v0 40) : Nat)) <|
    let x44 := (M.1 (M.2.2 v0 40) v2.toNatClampNeg) - v3
    f_X12_amount_145 Γ M rhFU v0 v1 v2 x44)
  else
  if (M.1 (M.2.2 v0 29) v1.toNatClampNeg) = 112 then
    (rhck (Γ.2.2.1 (M.2.2 v0 40) = 15) <|
    rhck (0 ≤ (v2).toInt ∧ (v2).toInt < (Γ.2.2.2 (M.2.2 v0 40) : Nat)) <|
    let x48 := (M.1 (M.2.2 v0 40) v2.toNatClampNeg) - v3
    f_X12_amount_145 Γ M rhFU v0 v1 v2 x48)
  else
  if (M.1 (M.2.2 v0 29) v1.toNatClampNeg) = 113 then
    (rhck (Γ.2.2.1 (M.2.2 v0 40) = 15) <|
    rhck (0 ≤ (v2).toInt ∧ (v2).toInt < (Γ.2.2.2 (M.2.2 v0 40) : Nat)) <|
    let x52 := (M.1 (M.2.2 v0 40) v2.toNatClampNeg) - v3
    f_X12_amount_145 Γ M rhFU v0 v1 v2 x52)
  else
  if (M.1 (M.2.2 v0 29) v1.toNatClampNeg) = 114 then
    ((f_X12_roomOn Γ M v0 v4).bind fun r54 =>
    some r54)
  else
  if (M.1 (M.2.2 v0 29) v1.toNatClampNeg) = 115 then
    (rhck (Γ.2.2.1 (M.2.2 v0 40) = 15) <|
    rhck (0 ≤ (v2).toInt ∧ (v2).toInt < (Γ.2.2.2 (M.2.2 v0 40) : Nat)) <|
    let x58 := (M.1 (M.2.2 v0 40) v2.toNatClampNeg) - v3
    f_X12_amount_145 Γ M rhFU v0 v1 v2 x58)
  else
  if (M.1 (M.2.2 v0 29) v1.toNatClampNeg) = 116 then
    (some v4)
  else
  if (M.1 (M.2.2 v0 29) v1.toNatClampNeg) = 117 then
    (rhck (Γ.2.2.1 (M.2.2 v0 40) = 15) <|
    rhck (0 ≤ (v2).toInt ∧ (v2).toInt < (Γ.2.2.2 (M.2.2 v0 40) : Nat)) <|
    let x63 := (M.1 (M.2.2 v0 40) v2.toNatClampNeg) - v3
    f_X12_amount_145 Γ M rhFU v0 v1 v2 x63)
  else
  if (M.1 (M.2.2 v0 29) v1.toNatClampNeg) = 118 then
    (rhck (Γ.2.2.1 (M.2.2 v0 40) = 15) <|
    rhck (0 ≤ (v2).toInt ∧ (v2).toInt < (Γ.2.2.2 (M.2.2 v0 40) : Nat)) <|
    let x67 := (M.1 (M.2.2 v0 40) v2.toNatClampNeg) - v3
    f_X12_amount_145 Γ M rhFU v0 v1 v2 x67)
  else
  if (M.1 (M.2.2 v0 29) v1.toNatClampNeg) = 119 then
    ((f_X12_sumOf Γ M v0 (M.2.2 v0 20) v2 v3).bind fun r69 =>
    some r69)
  else
  rhck (Γ.2.2.1 (M.2.2 v0 40) = 15) <|
  rhck (0 ≤ (v2).toInt ∧ (v2).toInt < (Γ.2.2.2 (M.2.2 v0 40) : Nat)) <|
  let x72 := (M.1 (M.2.2 v0 40) v2.toNatClampNeg) - v3
  f_X12_amount_145 Γ M rhFU v0 v1 v2 x72
set_option maxHeartbeats 4000000 in
set_option maxRecDepth 100000 in
theorem b_X12_amount_145 {E : rhE} {Γ : rhG} {M : rhM} : ∀ (n : Nat) (v0 : Nat) (v1 : Int32) (v2 : Int32) (v5 : Int32), rhF E 6 6 yX12_amount cX12_amount (some .int) Γ (rhe0I Γ M) (f_X12_amount_145 Γ M n v0 v1 v2 v5) 145 [(0, rhR v0), (1, rhI v1), (2, rhI v2), (5, rhI v5)] [] Γ M := by
  intro n
  induction n with
  | zero => intro v0 v1 v2 v5; rw [f_X12_amount_145]; exact rhF.nope
  | succ n ih =>
    intro v0 v1 v2 v5
    rw [f_X12_amount_145]
    refine rhF.iload (pc := 145) dX12_amount_145 3 rfl ?_
    refine rhF.aload_n (pc := 147) dX12_amount_147 0 rfl ?_
    refine rhF.ck (fun h9 => ?_)
    refine rhF.get (pc := 148) (rhR _) dX12_amount_148 fl_X12_95 h9 rfl ?_
    refine rhF.iload_n (pc := 151) dX12_amount_151 2 rfl ?_
    refine rhF.ck (fun h10 => ?_)
    refine rhF.ck (fun h11 => ?_)
    refine rhF.iald (pc := 152) dX12_amount_152 h10 h11 ?_
    refine rhF.icmp_ge (pc := 153) 180 dX12_amount_153 (by decide) (fun h12 => ?_) (fun h12 => ?_)
    · refine rhF.aload_n (pc := 156) dX12_amount_156 0 rfl ?_
      refine rhF.get (pc := 157) (rhR _) dX12_amount_157 fl_X12_92 h9 rfl ?_
      refine rhF.iload (pc := 160) dX12_amount_160 3 rfl ?_
      refine rhF.ck (fun h13 => ?_)
      refine rhF.ck (fun h14 => ?_)
      refine rhF.iald (pc := 162) dX12_amount_162 h13 h14 ?_
      refine rhF.aload_n (pc := 163) dX12_amount_163 0 rfl ?_
      refine rhF.get (pc := 164) (rhR _) dX12_amount_164 fl_X12_80 h9 rfl ?_
      refine rhF.iload_n (pc := 167) dX12_amount_167 1 rfl ?_
      refine rhF.ck (fun h15 => ?_)
      refine rhF.ck (fun h16 => ?_)
      refine rhF.iald (pc := 168) dX12_amount_168 h15 h16 ?_
      refine rhF.icmp_ne (pc := 169) 174 dX12_amount_169 (by decide) (fun h17 => ?_) (fun h17 => ?_)
      · refine rhF.iconst (pc := 172) (v := 1) dX12_amount_172 (by decide) ?_
        exact rhF.zret (pc := 173) dX12_amount_173 rfl rfl rfl
      · refine rhF.iinc (pc := 174) (L' := [(5, rhI _), (0, rhR _), (1, rhI _), (2, rhI _)]) dX12_amount_174 3 rfl rfl (by decide) rfl ?_
        refine rhF.goto (pc := 177) 145 dX12_amount_177 (by decide) ?_
        refine rhF.sub [1, 2, 3, 0] rfl ?_
        exact ih _ _ _ _
    · refine rhF.iconst (pc := 180) (v := 0) dX12_amount_180 (by decide) ?_
      exact rhF.zret (pc := 181) dX12_amount_181 rfl rfl rfl
set_option maxHeartbeats 4000000 in
set_option maxRecDepth 100000 in
theorem b_X12_amount {E : rhE} {Γ : rhG} {M : rhM} : ∀ (v0 : Nat) (v1 : Int32) (v2 : Int32) (v3 : Int32) (v4 : Int32), rhF E 6 6 yX12_amount cX12_amount (some .int) Γ (rhe0I Γ M) (f_X12_amount Γ M v0 v1 v2 v3 v4) 0 [(0, rhR v0), (1, rhI v1), (2, rhI v2), (3, rhI v3), (4, rhI v4)] [] Γ M := by
  intro v0 v1 v2 v3 v4
  rw [f_X12_amount]
  refine rhF.aload_n (pc := 0) dX12_amount_0 0 rfl ?_
  refine rhF.ck (fun h1 => ?_)
  refine rhF.get (pc := 1) (rhR _) dX12_amount_1 fl_X12_77 h1 rfl ?_
  refine rhF.iload_n (pc := 4) dX12_amount_4 1 rfl ?_
  refine rhF.ck (fun h2 => ?_)
  refine rhF.ck (fun h3 => ?_)
  refine rhF.iald (pc := 5) dX12_amount_5 h2 h3 ?_
  refine rhF.ite (fun h4 => ?_) (fun h4 => ?_)
  · refine rhF.tsIn (pc := 6) 123 102 dX12_amount_6 (by rw [h4]; decide) (by decide) rfl (by decide) ?_
    refine rhF.iload_n (pc := 123) dX12_amount_123 2 rfl ?_
    exact rhF.zret (pc := 124) dX12_amount_124 rfl rfl rfl
  · skip
    refine rhF.ite (fun h5 => ?_) (fun h5 => ?_)
    · refine rhF.tsIn (pc := 6) 135 103 dX12_amount_6 (by rw [h5]; decide) (by decide) rfl (by decide) ?_
      refine rhF.aload_n (pc := 135) dX12_amount_135 0 rfl ?_
      refine rhF.get (pc := 136) (rhR _) dX12_amount_136 fl_X12_95 h1 rfl ?_
      refine rhF.iload_n (pc := 139) dX12_amount_139 2 rfl ?_
      refine rhF.ck (fun h6 => ?_)
      refine rhF.ck (fun h7 => ?_)
      refine rhF.iald (pc := 140) dX12_amount_140 h6 h7 ?_
      refine rhF.iload_n (pc := 141) dX12_amount_141 3 rfl ?_
      refine rhF.isub (pc := 142) dX12_amount_142 ?_
      refine rhF.istore (pc := 143) (L' := [(5, rhI _), (0, rhR _), (1, rhI _), (2, rhI _), (3, rhI _), (4, rhI _)]) dX12_amount_143 (by decide) rfl ?_
      refine rhF.sub [1, 2, 3, 0] rfl ?_
      exact (b_X12_amount_145 rhFU) _ _ _ _
    · skip
      refine rhF.ite (fun h19 => ?_) (fun h19 => ?_)
      · refine rhF.tsIn (pc := 6) 135 104 dX12_amount_6 (by rw [h19]; decide) (by decide) rfl (by decide) ?_
        refine rhF.aload_n (pc := 135) dX12_amount_135 0 rfl ?_
        refine rhF.get (pc := 136) (rhR _) dX12_amount_136 fl_X12_95 h1 rfl ?_
        refine rhF.iload_n (pc := 139) dX12_amount_139 2 rfl ?_
        refine rhF.ck (fun h20 => ?_)
        refine rhF.ck (fun h21 => ?_)
        refine rhF.iald (pc := 140) dX12_amount_140 h20 h21 ?_
        refine rhF.iload_n (pc := 141) dX12_amount_141 3 rfl ?_
        refine rhF.isub (pc := 142) dX12_amount_142 ?_
        refine rhF.istore (pc := 143) (L' := [(5, rhI _), (0, rhR _), (1, rhI _), (2, rhI _), (3, rhI _), (4, rhI _)]) dX12_amount_143 (by decide) rfl ?_
        refine rhF.sub [1, 2, 3, 0] rfl ?_
        exact (b_X12_amount_145 rhFU) _ _ _ _
      · skip
        refine rhF.ite (fun h23 => ?_) (fun h23 => ?_)
        · refine rhF.tsIn (pc := 6) 135 105 dX12_amount_6 (by rw [h23]; decide) (by decide) rfl (by decide) ?_
          refine rhF.aload_n (pc := 135) dX12_amount_135 0 rfl ?_
          refine rhF.get (pc := 136) (rhR _) dX12_amount_136 fl_X12_95 h1 rfl ?_
          refine rhF.iload_n (pc := 139) dX12_amount_139 2 rfl ?_
          refine rhF.ck (fun h24 => ?_)
          refine rhF.ck (fun h25 => ?_)
          refine rhF.iald (pc := 140) dX12_amount_140 h24 h25 ?_
          refine rhF.iload_n (pc := 141) dX12_amount_141 3 rfl ?_
          refine rhF.isub (pc := 142) dX12_amount_142 ?_
          refine rhF.istore (pc := 143) (L' := [(5, rhI _), (0, rhR _), (1, rhI _), (2, rhI _), (3, rhI _), (4, rhI _)]) dX12_amount_143 (by decide) rfl ?_
          refine rhF.sub [1, 2, 3, 0] rfl ?_
          exact (b_X12_amount_145 rhFU) _ _ _ _
        · skip
          refine rhF.ite (fun h27 => ?_) (fun h27 => ?_)
          · refine rhF.tsIn (pc := 6) 135 106 dX12_amount_6 (by rw [h27]; decide) (by decide) rfl (by decide) ?_
            refine rhF.aload_n (pc := 135) dX12_amount_135 0 rfl ?_
            refine rhF.get (pc := 136) (rhR _) dX12_amount_136 fl_X12_95 h1 rfl ?_
            refine rhF.iload_n (pc := 139) dX12_amount_139 2 rfl ?_
            refine rhF.ck (fun h28 => ?_)
            refine rhF.ck (fun h29 => ?_)
            refine rhF.iald (pc := 140) dX12_amount_140 h28 h29 ?_
            refine rhF.iload_n (pc := 141) dX12_amount_141 3 rfl ?_
            refine rhF.isub (pc := 142) dX12_amount_142 ?_
            refine rhF.istore (pc := 143) (L' := [(5, rhI _), (0, rhR _), (1, rhI _), (2, rhI _), (3, rhI _), (4, rhI _)]) dX12_amount_143 (by decide) rfl ?_
            refine rhF.sub [1, 2, 3, 0] rfl ?_
            exact (b_X12_amount_145 rhFU) _ _ _ _
          · skip
            refine rhF.ite (fun h31 => ?_) (fun h31 => ?_)
            · refine rhF.tsIn (pc := 6) 135 107 dX12_amount_6 (by rw [h31]; decide) (by decide) rfl (by decide) ?_
              refine rhF.aload_n (pc := 135) dX12_amount_135 0 rfl ?_
              refine rhF.get (pc := 136) (rhR _) dX12_amount_136 fl_X12_95 h1 rfl ?_
              refine rhF.iload_n (pc := 139) dX12_amount_139 2 rfl ?_
              refine rhF.ck (fun h32 => ?_)
              refine rhF.ck (fun h33 => ?_)
              refine rhF.iald (pc := 140) dX12_amount_140 h32 h33 ?_
              refine rhF.iload_n (pc := 141) dX12_amount_141 3 rfl ?_
              refine rhF.isub (pc := 142) dX12_amount_142 ?_
              refine rhF.istore (pc := 143) (L' := [(5, rhI _), (0, rhR _), (1, rhI _), (2, rhI _), (3, rhI _), (4, rhI _)]) dX12_amount_143 (by decide) rfl ?_
              refine rhF.sub [1, 2, 3, 0] rfl ?_
              exact (b_X12_amount_145 rhFU) _ _ _ _
            · skip
              refine rhF.ite (fun h35 => ?_) (fun h35 => ?_)
              · refine rhF.tsIn (pc := 6) 112 108 dX12_amount_6 (by rw [h35]; decide) (by decide) rfl (by decide) ?_
                refine rhF.aload_n (pc := 112) dX12_amount_112 0 rfl ?_
                refine rhF.aload_n (pc := 113) dX12_amount_113 0 rfl ?_
                refine rhF.get (pc := 114) (rhR _) dX12_amount_114 fl_X12_45 h1 rfl ?_
                refine rhF.iload_n (pc := 117) dX12_amount_117 2 rfl ?_
                refine rhF.iload_n (pc := 118) dX12_amount_118 3 rfl ?_
                refine rhF.callV (pc := 119) (ci := 12) (embc := rhe0I _ _) [rhR _, rhI _, rhI _] dX12_amount_119 ml_X12_431 mv_X12_sumOf ⟨_, rfl, rfl⟩ h1 (c_X12_sumOf _ _ _ _ _ _ _) (by decide) (by decide) rfl (Nat.le_of_ble_eq_true rfl) (fun r36 _ => ?_)
                exact rhF.zret (pc := 122) dX12_amount_122 rfl rfl rfl
              · skip
                refine rhF.ite (fun h37 => ?_) (fun h37 => ?_)
                · refine rhF.tsIn (pc := 6) 99 109 dX12_amount_6 (by rw [h37]; decide) (by decide) rfl (by decide) ?_
                  refine rhF.iload_n (pc := 99) dX12_amount_99 3 rfl ?_
                  exact rhF.zret (pc := 100) dX12_amount_100 rfl rfl rfl
                · skip
                  refine rhF.ite (fun h38 => ?_) (fun h38 => ?_)
                  · refine rhF.tsIn (pc := 6) 92 110 dX12_amount_6 (by rw [h38]; decide) (by decide) rfl (by decide) ?_
                    refine rhF.aload_n (pc := 92) dX12_amount_92 0 rfl ?_
                    refine rhF.get (pc := 93) (rhR _) dX12_amount_93 fl_X12_80 h1 rfl ?_
                    refine rhF.iload_n (pc := 96) dX12_amount_96 1 rfl ?_
                    refine rhF.ck (fun h39 => ?_)
                    refine rhF.ck (fun h40 => ?_)
                    refine rhF.iald (pc := 97) dX12_amount_97 h39 h40 ?_
                    exact rhF.zret (pc := 98) dX12_amount_98 rfl rfl rfl
                  · skip
                    refine rhF.ite (fun h41 => ?_) (fun h41 => ?_)
                    · refine rhF.tsIn (pc := 6) 135 111 dX12_amount_6 (by rw [h41]; decide) (by decide) rfl (by decide) ?_
                      refine rhF.aload_n (pc := 135) dX12_amount_135 0 rfl ?_
                      refine rhF.get (pc := 136) (rhR _) dX12_amount_136 fl_X12_95 h1 rfl ?_
                      refine rhF.iload_n (pc := 139) dX12_amount_139 2 rfl ?_
                      refine rhF.ck (fun h42 => ?_)
                      refine rhF.ck (fun h43 => ?_)
                      refine rhF.iald (pc := 140) dX12_amount_140 h42 h43 ?_
                      refine rhF.iload_n (pc := 141) dX12_amount_141 3 rfl ?_
                      refine rhF.isub (pc := 142) dX12_amount_142 ?_
                      refine rhF.istore (pc := 143) (L' := [(5, rhI _), (0, rhR _), (1, rhI _), (2, rhI _), (3, rhI _), (4, rhI _)]) dX12_amount_143 (by decide) rfl ?_
                      refine rhF.sub [1, 2, 3, 0] rfl ?_
                      exact (b_X12_amount_145 rhFU) _ _ _ _
                    · skip
                      refine rhF.ite (fun h45 => ?_) (fun h45 => ?_)
                      · refine rhF.tsIn (pc := 6) 135 112 dX12_amount_6 (by rw [h45]; decide) (by decide) rfl (by decide) ?_
                        refine rhF.aload_n (pc := 135) dX12_amount_135 0 rfl ?_
                        refine rhF.get (pc := 136) (rhR _) dX12_amount_136 fl_X12_95 h1 rfl ?_
                        refine rhF.iload_n (pc := 139) dX12_amount_139 2 rfl ?_
                        refine rhF.ck (fun h46 => ?_)
                        refine rhF.ck (fun h47 => ?_)
                        refine rhF.iald (pc := 140) dX12_amount_140 h46 h47 ?_
                        refine rhF.iload_n (pc := 141) dX12_amount_141 3 rfl ?_
                        refine rhF.isub (pc := 142) dX12_amount_142 ?_
                        refine rhF.istore (pc := 143) (L' := [(5, rhI _), (0, rhR _), (1, rhI _), (2, rhI _), (3, rhI _), (4, rhI _)]) dX12_amount_143 (by decide) rfl ?_
                        refine rhF.sub [1, 2, 3, 0] rfl ?_
                        exact (b_X12_amount_145 rhFU) _ _ _ _
                      · skip
                        refine rhF.ite (fun h49 => ?_) (fun h49 => ?_)
                        · refine rhF.tsIn (pc := 6) 135 113 dX12_amount_6 (by rw [h49]; decide) (by decide) rfl (by decide) ?_
                          refine rhF.aload_n (pc := 135) dX12_amount_135 0 rfl ?_
                          refine rhF.get (pc := 136) (rhR _) dX12_amount_136 fl_X12_95 h1 rfl ?_
                          refine rhF.iload_n (pc := 139) dX12_amount_139 2 rfl ?_
                          refine rhF.ck (fun h50 => ?_)
                          refine rhF.ck (fun h51 => ?_)
                          refine rhF.iald (pc := 140) dX12_amount_140 h50 h51 ?_
                          refine rhF.iload_n (pc := 141) dX12_amount_141 3 rfl ?_
                          refine rhF.isub (pc := 142) dX12_amount_142 ?_
                          refine rhF.istore (pc := 143) (L' := [(5, rhI _), (0, rhR _), (1, rhI _), (2, rhI _), (3, rhI _), (4, rhI _)]) dX12_amount_143 (by decide) rfl ?_
                          refine rhF.sub [1, 2, 3, 0] rfl ?_
                          exact (b_X12_amount_145 rhFU) _ _ _ _
                        · skip
                          refine rhF.ite (fun h53 => ?_) (fun h53 => ?_)
                          · refine rhF.tsIn (pc := 6) 128 114 dX12_amount_6 (by rw [h53]; decide) (by decide) rfl (by decide) ?_
                            refine rhF.aload_n (pc := 128) dX12_amount_128 0 rfl ?_
                            refine rhF.iload (pc := 129) dX12_amount_129 4 rfl ?_
                            refine rhF.callV (pc := 131) (ci := 12) (embc := rhe0I _ _) [rhI _] dX12_amount_131 ml_X12_435 mv_X12_roomOn ⟨_, rfl, rfl⟩ h1 (c_X12_roomOn _ _ _ _ _) (by decide) (by decide) rfl (Nat.le_of_ble_eq_true rfl) (fun r54 _ => ?_)
                            exact rhF.zret (pc := 134) dX12_amount_134 rfl rfl rfl
                          · skip
                            refine rhF.ite (fun h55 => ?_) (fun h55 => ?_)
                            · refine rhF.tsIn (pc := 6) 135 115 dX12_amount_6 (by rw [h55]; decide) (by decide) rfl (by decide) ?_
                              refine rhF.aload_n (pc := 135) dX12_amount_135 0 rfl ?_
                              refine rhF.get (pc := 136) (rhR _) dX12_amount_136 fl_X12_95 h1 rfl ?_
                              refine rhF.iload_n (pc := 139) dX12_amount_139 2 rfl ?_
                              refine rhF.ck (fun h56 => ?_)
                              refine rhF.ck (fun h57 => ?_)
                              refine rhF.iald (pc := 140) dX12_amount_140 h56 h57 ?_
                              refine rhF.iload_n (pc := 141) dX12_amount_141 3 rfl ?_
                              refine rhF.isub (pc := 142) dX12_amount_142 ?_
                              refine rhF.istore (pc := 143) (L' := [(5, rhI _), (0, rhR _), (1, rhI _), (2, rhI _), (3, rhI _), (4, rhI _)]) dX12_amount_143 (by decide) rfl ?_
                              refine rhF.sub [1, 2, 3, 0] rfl ?_
                              exact (b_X12_amount_145 rhFU) _ _ _ _
                            · skip
                              refine rhF.ite (fun h59 => ?_) (fun h59 => ?_)
                              · refine rhF.tsIn (pc := 6) 125 116 dX12_amount_6 (by rw [h59]; decide) (by decide) rfl (by decide) ?_
                                refine rhF.iload (pc := 125) dX12_amount_125 4 rfl ?_
                                exact rhF.zret (pc := 127) dX12_amount_127 rfl rfl rfl
                              · skip
                                refine rhF.ite (fun h60 => ?_) (fun h60 => ?_)
                                · refine rhF.tsIn (pc := 6) 135 117 dX12_amount_6 (by rw [h60]; decide) (by decide) rfl (by decide) ?_
                                  refine rhF.aload_n (pc := 135) dX12_amount_135 0 rfl ?_
                                  refine rhF.get (pc := 136) (rhR _) dX12_amount_136 fl_X12_95 h1 rfl ?_
                                  refine rhF.iload_n (pc := 139) dX12_amount_139 2 rfl ?_
                                  refine rhF.ck (fun h61 => ?_)
                                  refine rhF.ck (fun h62 => ?_)
                                  refine rhF.iald (pc := 140) dX12_amount_140 h61 h62 ?_
                                  refine rhF.iload_n (pc := 141) dX12_amount_141 3 rfl ?_
                                  refine rhF.isub (pc := 142) dX12_amount_142 ?_
                                  refine rhF.istore (pc := 143) (L' := [(5, rhI _), (0, rhR _), (1, rhI _), (2, rhI _), (3, rhI _), (4, rhI _)]) dX12_amount_143 (by decide) rfl ?_
                                  refine rhF.sub [1, 2, 3, 0] rfl ?_
                                  exact (b_X12_amount_145 rhFU) _ _ _ _
                                · skip
                                  refine rhF.ite (fun h64 => ?_) (fun h64 => ?_)
                                  · refine rhF.tsIn (pc := 6) 135 118 dX12_amount_6 (by rw [h64]; decide) (by decide) rfl (by decide) ?_
                                    refine rhF.aload_n (pc := 135) dX12_amount_135 0 rfl ?_
                                    refine rhF.get (pc := 136) (rhR _) dX12_amount_136 fl_X12_95 h1 rfl ?_
                                    refine rhF.iload_n (pc := 139) dX12_amount_139 2 rfl ?_
                                    refine rhF.ck (fun h65 => ?_)
                                    refine rhF.ck (fun h66 => ?_)
                                    refine rhF.iald (pc := 140) dX12_amount_140 h65 h66 ?_
                                    refine rhF.iload_n (pc := 141) dX12_amount_141 3 rfl ?_
                                    refine rhF.isub (pc := 142) dX12_amount_142 ?_
                                    refine rhF.istore (pc := 143) (L' := [(5, rhI _), (0, rhR _), (1, rhI _), (2, rhI _), (3, rhI _), (4, rhI _)]) dX12_amount_143 (by decide) rfl ?_
                                    refine rhF.sub [1, 2, 3, 0] rfl ?_
                                    exact (b_X12_amount_145 rhFU) _ _ _ _
                                  · skip
                                    refine rhF.ite (fun h68 => ?_) (fun h68 => ?_)
                                    · refine rhF.tsIn (pc := 6) 101 119 dX12_amount_6 (by rw [h68]; decide) (by decide) rfl (by decide) ?_
                                      refine rhF.aload_n (pc := 101) dX12_amount_101 0 rfl ?_
                                      refine rhF.aload_n (pc := 102) dX12_amount_102 0 rfl ?_
                                      refine rhF.get (pc := 103) (rhR _) dX12_amount_103 fl_X12_48 h1 rfl ?_
                                      refine rhF.iload_n (pc := 106) dX12_amount_106 2 rfl ?_
                                      refine rhF.iload_n (pc := 107) dX12_amount_107 3 rfl ?_
                                      refine rhF.callV (pc := 108) (ci := 12) (embc := rhe0I _ _) [rhR _, rhI _, rhI _] dX12_amount_108 ml_X12_431 mv_X12_sumOf ⟨_, rfl, rfl⟩ h1 (c_X12_sumOf _ _ _ _ _ _ _) (by decide) (by decide) rfl (Nat.le_of_ble_eq_true rfl) (fun r69 _ => ?_)
                                      exact rhF.zret (pc := 111) dX12_amount_111 rfl rfl rfl
                                    · skip
                                      have zh4 := rhne h4 (n := 102) (by decide)
                                      have zh5 := rhne h5 (n := 103) (by decide)
                                      have zh19 := rhne h19 (n := 104) (by decide)
                                      have zh23 := rhne h23 (n := 105) (by decide)
                                      have zh27 := rhne h27 (n := 106) (by decide)
                                      have zh31 := rhne h31 (n := 107) (by decide)
                                      have zh35 := rhne h35 (n := 108) (by decide)
                                      have zh37 := rhne h37 (n := 109) (by decide)
                                      have zh38 := rhne h38 (n := 110) (by decide)
                                      have zh41 := rhne h41 (n := 111) (by decide)
                                      have zh45 := rhne h45 (n := 112) (by decide)
                                      have zh49 := rhne h49 (n := 113) (by decide)
                                      have zh53 := rhne h53 (n := 114) (by decide)
                                      have zh55 := rhne h55 (n := 115) (by decide)
                                      have zh59 := rhne h59 (n := 116) (by decide)
                                      have zh60 := rhne h60 (n := 117) (by decide)
                                      have zh64 := rhne h64 (n := 118) (by decide)
                                      have zh68 := rhne h68 (n := 119) (by decide)
                                      refine rhF.tsOut (pc := 6) 135 dX12_amount_6 (by omega) (by decide) ?_
                                      refine rhF.aload_n (pc := 135) dX12_amount_135 0 rfl ?_
                                      refine rhF.get (pc := 136) (rhR _) dX12_amount_136 fl_X12_95 h1 rfl ?_
                                      refine rhF.iload_n (pc := 139) dX12_amount_139 2 rfl ?_
                                      refine rhF.ck (fun h70 => ?_)
                                      refine rhF.ck (fun h71 => ?_)
                                      refine rhF.iald (pc := 140) dX12_amount_140 h70 h71 ?_
                                      refine rhF.iload_n (pc := 141) dX12_amount_141 3 rfl ?_
                                      refine rhF.isub (pc := 142) dX12_amount_142 ?_
                                      refine rhF.istore (pc := 143) (L' := [(5, rhI _), (0, rhR _), (1, rhI _), (2, rhI _), (3, rhI _), (4, rhI _)]) dX12_amount_143 (by decide) rfl ?_
                                      refine rhF.sub [1, 2, 3, 0] rfl ?_
                                      exact (b_X12_amount_145 rhFU) _ _ _ _
theorem c_X12_amount (E : rhE) (Γ : rhG) (M : rhM) (v0 : Nat) (v1 : Int32) (v2 : Int32) (v3 : Int32) (v4 : Int32) : ∀ a, f_X12_amount Γ M v0 v1 v2 v3 v4 = some a → rhC E 6 yX12_amount cX12_amount 6 (some .int) [rhR v0, rhI v1, rhI v2, rhI v3, rhI v4] Γ M ((rhe0I Γ M) a) := rhF.met (by decide +kernel) (Nat.le_of_ble_eq_true rfl) (b_X12_amount v0 v1 v2 v3 v4)
def f_X12_isIn (Γ : rhG) (M : rhM) (v0 : Int32) (v1 : Int32) (v2 : Int32) : Option (Int32) :=
  if v0 < v1 then
    (some 0)
  else
    if v2 < v0 then
      (some 0)
    else
      some 1
set_option maxHeartbeats 4000000 in
set_option maxRecDepth 100000 in
theorem b_X12_isIn {E : rhE} {Γ : rhG} {M : rhM} : ∀ (v0 : Int32) (v1 : Int32) (v2 : Int32), rhF E 1 3 yX12_isIn cX12_isIn (some .boolean) Γ (rhe0I Γ M) (f_X12_isIn Γ M v0 v1 v2) 0 [(0, rhI v0), (1, rhI v1), (2, rhI v2)] [] Γ M := by
  intro v0 v1 v2
  rw [f_X12_isIn]
  refine rhF.iload_n (pc := 0) dX12_isIn_0 0 rfl ?_
  refine rhF.iload_n (pc := 1) dX12_isIn_1 1 rfl ?_
  refine rhF.icmp_lt (pc := 2) 14 dX12_isIn_2 (by decide) (fun h1 => ?_) (fun h1 => ?_)
  · refine rhF.iconst (pc := 14) (v := 0) dX12_isIn_14 (by decide) ?_
    exact rhF.zret (pc := 15) dX12_isIn_15 rfl rfl rfl
  · refine rhF.iload_n (pc := 5) dX12_isIn_5 0 rfl ?_
    refine rhF.iload_n (pc := 6) dX12_isIn_6 2 rfl ?_
    refine rhF.icmp_gt (pc := 7) 14 dX12_isIn_7 (by decide) (fun h2 => ?_) (fun h2 => ?_)
    · refine rhF.iconst (pc := 14) (v := 0) dX12_isIn_14 (by decide) ?_
      exact rhF.zret (pc := 15) dX12_isIn_15 rfl rfl rfl
    · refine rhF.iconst (pc := 10) (v := 1) dX12_isIn_10 (by decide) ?_
      refine rhF.goto (pc := 11) 15 dX12_isIn_11 (by decide) ?_
      exact rhF.zret (pc := 15) dX12_isIn_15 rfl rfl rfl
theorem c_X12_isIn (E : rhE) (Γ : rhG) (M : rhM) (v0 : Int32) (v1 : Int32) (v2 : Int32) : ∀ a, f_X12_isIn Γ M v0 v1 v2 = some a → rhC E 1 yX12_isIn cX12_isIn 3 (some .boolean) [rhI v0, rhI v1, rhI v2] Γ M ((rhe0I Γ M) a) := rhF.met (by decide +kernel) (Nat.le_of_ble_eq_true rfl) (b_X12_isIn v0 v1 v2)
def f_X12_isRail (Γ : rhG) (M : rhM) (v0 : Nat) (v1 : Int32) : Option (Int32) :=
  rhck (Γ.2.2.1 v0 = 13) <|
  (f_X12_railMany Γ M v0).bind fun r2 =>
  (f_X12_isIn Γ M v1 (0 : Int32) (r2 - 1)).bind fun r3 =>
  rhck (r3 = 0 ∨ r3 = 1) <|
  some r3
set_option maxHeartbeats 4000000 in
set_option maxRecDepth 100000 in
theorem b_X12_isRail {E : rhE} {Γ : rhG} {M : rhM} : ∀ (v0 : Nat) (v1 : Int32), rhF E 5 2 yX12_isRail cX12_isRail (some .boolean) Γ (rhe0I Γ M) (f_X12_isRail Γ M v0 v1) 0 [(0, rhR v0), (1, rhI v1)] [] Γ M := by
  intro v0 v1
  rw [f_X12_isRail]
  refine rhF.iload_n (pc := 0) dX12_isRail_0 1 rfl ?_
  refine rhF.iconst (pc := 1) (v := 0) dX12_isRail_1 (by decide) ?_
  refine rhF.aload_n (pc := 2) dX12_isRail_2 0 rfl ?_
  refine rhF.ck (fun h1 => ?_)
  refine rhF.callV (pc := 3) (ci := 12) (embc := rhe0I _ _) [] dX12_isRail_3 ml_X12_412 mv_X12_railMany ⟨_, rfl, rfl⟩ h1 (c_X12_railMany _ _ _ _) (by decide) (by decide) rfl (Nat.le_of_ble_eq_true rfl) (fun r2 _ => ?_)
  refine rhF.iconst (pc := 6) (v := 1) dX12_isRail_6 (by decide) ?_
  refine rhF.isub (pc := 7) dX12_isRail_7 ?_
  refine rhF.callS (pc := 8) (embc := rhe0I _ _) [rhI _, rhI _, rhI _] dX12_isRail_8 ml_X12_415 ms_X12_isIn (c_X12_isIn _ _ _ _ _ _) (by decide) (by decide) rfl (Nat.le_of_ble_eq_true rfl) (fun r3 _ => ?_)
  refine rhF.ck (fun h4 => ?_)
  exact rhF.zret (pc := 11) dX12_isRail_11 rfl (rhzb h4) rfl
theorem c_X12_isRail (E : rhE) (Γ : rhG) (M : rhM) (v0 : Nat) (v1 : Int32) : ∀ a, f_X12_isRail Γ M v0 v1 = some a → rhC E 5 yX12_isRail cX12_isRail 2 (some .boolean) [rhR v0, rhI v1] Γ M ((rhe0I Γ M) a) := rhF.met (by decide +kernel) (Nat.le_of_ble_eq_true rfl) (b_X12_isRail v0 v1)
