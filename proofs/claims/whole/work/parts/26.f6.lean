def f_X12_readHouse_152 (k121 : rhM → Nat → Int32 → Int64 → Int32 → Int32 → Int32 → Option (rhM)) (Γ : rhG) (M : rhM) (v0 : Nat) (v1 : Int32) (v2 : Int64) (v4 : Int32) (v6 : Int32) (s0 : Int32) (s1 : Int32) : Option (rhM) :=
  let x40 := s0 + s1
  let x41 : Int32 := v6 + 1
  k121 M v0 v1 v2 v4 x40 x41
def f_X12_readHouse_121 (k161 : rhM → Nat → Int32 → Int64 → Int32 → Int32 → Option (rhM)) (Γ : rhG) : Nat → rhM → Nat → Int32 → Int64 → Int32 → Int32 → Int32 → Option (rhM)
  | 0, _, _, _, _, _, _, _ => none
  | n + 1, M, v0, v1, v2, v4, v5, v6 =>
    if v6 < v1 then
      (rhck (Γ.2.2.1 v0 = 13) <|
      rhck (Γ.2.2.1 (M.2.2 v0 21) = 15) <|
      rhck (0 ≤ (v6).toInt ∧ (v6).toInt < (Γ.2.2.2 (M.2.2 v0 21) : Nat)) <|
      if (M.1 (M.2.2 v0 21) v6.toNatClampNeg) = v4 then
        (rhck (Γ.2.2.1 (M.2.2 v0 19) = 15) <|
        rhck (0 ≤ (v6).toInt ∧ (v6).toInt < (Γ.2.2.2 (M.2.2 v0 19) : Nat)) <|
        f_X12_readHouse_152 (f_X12_readHouse_121 k161 Γ n) Γ M v0 v1 v2 v4 v6 v5 (M.1 (M.2.2 v0 19) v6.toNatClampNeg))
      else
        f_X12_readHouse_152 (f_X12_readHouse_121 k161 Γ n) Γ M v0 v1 v2 v4 v6 v5 0)
    else
      k161 M v0 v1 v2 v4 v5
def f_X12_readHouse_206 (Γ : rhG) (M : rhM) (v0 : Nat) (v1 : Int32) (v2 : Int64) : Option (rhM) :=
  rhck (Γ.2.2.1 v0 = 13) <|
  rhck (Γ.2.2.1 (M.2.2 v0 28) = 16) <|
  rhck (0 ≤ (v1).toInt ∧ (v1).toInt < (Γ.2.2.2 (M.2.2 v0 28) : Nat)) <|
  let M49 := rhsl M (M.2.2 v0 28) (v1 : Int32).toNatClampNeg v2
  rhck (Γ.2.2.1 (M.2.2 v0 12) = 15) <|
  rhck (0 ≤ (M.1 v0 35).toInt ∧ (M.1 v0 35).toInt < (Γ.2.2.2 (M.2.2 v0 12) : Nat)) <|
  let M52 := rhsi M49 (M.2.2 v0 12) (M.1 v0 35 : Int32).toNatClampNeg ((M.1 (M.2.2 v0 12) (M.1 v0 35).toNatClampNeg) + 1)
  some M52
def f_X12_readHouse_161 (Γ : rhG) (M : rhM) (v0 : Nat) (v1 : Int32) (v2 : Int64) (v4 : Int32) (v5 : Int32) : Option (rhM) :=
  rhck (Γ.2.2.1 v0 = 13) <|
  (f_X12_stands Γ M v0 (59 : Int32)).bind fun r43 =>
  if r43 = 0 then
    ((f_X12_misplaced Γ M v0).bind fun r45 =>
    f_X12_readHouse_206 Γ r45 v0 v1 v2)
  else
    rhck (Γ.2.2.1 (M.2.2 v0 18) = 15) <|
    rhck (0 ≤ ((5 * (M.1 v0 35)) + v4).toInt ∧ ((5 * (M.1 v0 35)) + v4).toInt < (Γ.2.2.2 (M.2.2 v0 18) : Nat)) <|
    if (M.1 (M.2.2 v0 18) ((5 * (M.1 v0 35)) + v4).toNatClampNeg) < v5 then
      ((f_X12_fails Γ M v0 (6 : Int32) (M.1 v0 6)).bind fun r56 =>
      f_X12_readHouse_206 Γ r56 v0 v1 v2)
    else
      f_X12_readHouse_206 Γ M v0 v1 v2
def f_X12_readHouse_31 (Γ : rhG) (M : rhM) (v0 : Nat) (v1 : Int32) (s0 : Nat) (s1 : Int32) : Option (rhM) :=
  rhck (Γ.2.2.1 s0 = 13) <|
  (f_X12_fresh Γ M s0 s1).bind fun r8 =>
  let x9 := r8.1
  rhck (Γ.2.2.1 v0 = 13) <|
  (f_X12_after Γ r8.2 v0 ((119182899770472 : Int64)) (1 : Int32) (9 : Int32)).bind fun r11 =>
  rhck (Γ.2.2.1 (r8.2.2.2 v0 19) = 15) <|
  rhck (0 ≤ (v1).toInt ∧ (v1).toInt < (Γ.2.2.2 (r8.2.2.2 v0 19) : Nat)) <|
  let M14 := rhsi r11.2 (r8.2.2.2 v0 19) (v1 : Int32).toNatClampNeg r11.1
  (f_X12_after Γ M14 v0 ((131277443786868 : Int64)) (1 : Int32) (99 : Int32)).bind fun r15 =>
  rhck (Γ.2.2.1 (r11.2.2.2 v0 20) = 15) <|
  rhck (0 ≤ (v1).toInt ∧ (v1).toInt < (Γ.2.2.2 (r11.2.2.2 v0 20) : Nat)) <|
  let M18 := rhsi r15.2 (r11.2.2.2 v0 20) (v1 : Int32).toNatClampNeg r15.1
  (f_X12_isWord Γ M18 v0 ((28526 : Int64))).bind fun r19 =>
  (f_X12_must Γ M18 v0 r19).bind fun r20 =>
  (f_X12_railHere Γ r20 v0).bind fun r21 =>
  (f_X12_known Γ r20 v0 r21).bind fun r22 =>
  let x23 := r22.1
  rhck (Γ.2.2.1 (r22.2.2.2 v0 21) = 15) <|
  rhck (0 ≤ (v1).toInt ∧ (v1).toInt < (Γ.2.2.2 (r22.2.2.2 v0 21) : Nat)) <|
  let M26 := rhsi r22.2 (r22.2.2.2 v0 21) (v1 : Int32).toNatClampNeg x23
  (f_X12_isGood Γ M26 v0).bind fun r27 =>
  if r27 = 0 then
    (some M26)
  else
    rhck (Γ.2.2.1 (r22.2.2.2 v0 19) = 15) <|
    rhck (0 ≤ (v1).toInt ∧ (v1).toInt < (Γ.2.2.2 (r22.2.2.2 v0 19) : Nat)) <|
    let x31 := M26.1 (r22.2.2.2 v0 19) v1.toNatClampNeg
    let x32 := 8 * (M26.1 v0 35)
    f_X12_readHouse_121 (f_X12_readHouse_161 Γ) Γ rhFU M26 v0 v1 x9 x23 x31 x32
def f_X12_readHouse (Γ : rhG) (M : rhM) (v0 : Nat) : Option (rhM) :=
  rhck (Γ.2.2.1 v0 = 13) <|
  rhck (Γ.2.2.1 (M.2.2 v0 12) = 15) <|
  rhck (0 ≤ (M.1 v0 35).toInt ∧ (M.1 v0 35).toInt < (Γ.2.2.2 (M.2.2 v0 12) : Nat)) <|
  let x4 := (8 * (M.1 v0 35)) + (M.1 (M.2.2 v0 12) (M.1 v0 35).toNatClampNeg)
  (f_X12_houseHere Γ M v0).bind fun r5 =>
  if r5 < 0 then
    (f_X12_readHouse_31 Γ M v0 x4 v0 0)
  else
    f_X12_readHouse_31 Γ M v0 x4 v0 1
set_option maxHeartbeats 4000000 in
set_option maxRecDepth 100000 in
theorem b_X12_readHouse_152 {E : rhE} {Γ : rhG} {k121 : rhM → Nat → Int32 → Int64 → Int32 → Int32 → Int32 → Option (rhM)} (hk121 : ∀ (M : rhM) (v0 : Nat) (v1 : Int32) (v2 : Int64) (v4 : Int32) (v5 : Int32) (v6 : Int32), rhF E 8 7 yX12_readHouse cX12_readHouse none Γ (rhe1U Γ) (k121 M v0 v1 v2 v4 v5 v6) 121 [(0, rhR v0), (1, rhI v1), (2, rhJ v2), (4, rhI v4), (5, rhI v5), (6, rhI v6)] [] Γ M) : ∀ (M : rhM) (v0 : Nat) (v1 : Int32) (v2 : Int64) (v4 : Int32) (v6 : Int32) (s0 : Int32) (s1 : Int32), rhF E 8 7 yX12_readHouse cX12_readHouse none Γ (rhe1U Γ) (f_X12_readHouse_152 k121 Γ M v0 v1 v2 v4 v6 s0 s1) 152 [(0, rhR v0), (1, rhI v1), (2, rhJ v2), (4, rhI v4), (6, rhI v6)] [rhI s1, rhI s0] Γ M := by
  intro M v0 v1 v2 v4 v6 s0 s1
  rw [f_X12_readHouse_152]
  refine rhF.iadd (pc := 152) dX12_readHouse_152 ?_
  refine rhF.istore (pc := 153) (L' := [(5, rhI _), (0, rhR _), (1, rhI _), (2, rhJ _), (4, rhI _), (6, rhI _)]) dX12_readHouse_153 (by decide) rfl ?_
  refine rhF.iinc (pc := 155) (L' := [(6, rhI _), (5, rhI _), (0, rhR _), (1, rhI _), (2, rhJ _), (4, rhI _)]) dX12_readHouse_155 5 rfl rfl (by decide) rfl ?_
  refine rhF.goto (pc := 158) 121 dX12_readHouse_158 (by decide) ?_
  refine rhF.sub [2, 3, 4, 5, 1, 0] rfl ?_
  exact hk121 _ _ _ _ _ _ _
set_option maxHeartbeats 4000000 in
set_option maxRecDepth 100000 in
theorem b_X12_readHouse_121 {E : rhE} {Γ : rhG} {k161 : rhM → Nat → Int32 → Int64 → Int32 → Int32 → Option (rhM)} (hk161 : ∀ (M : rhM) (v0 : Nat) (v1 : Int32) (v2 : Int64) (v4 : Int32) (v5 : Int32), rhF E 8 7 yX12_readHouse cX12_readHouse none Γ (rhe1U Γ) (k161 M v0 v1 v2 v4 v5) 161 [(0, rhR v0), (1, rhI v1), (2, rhJ v2), (4, rhI v4), (5, rhI v5)] [] Γ M) : ∀ (n : Nat) (M : rhM) (v0 : Nat) (v1 : Int32) (v2 : Int64) (v4 : Int32) (v5 : Int32) (v6 : Int32), rhF E 8 7 yX12_readHouse cX12_readHouse none Γ (rhe1U Γ) (f_X12_readHouse_121 k161 Γ n M v0 v1 v2 v4 v5 v6) 121 [(0, rhR v0), (1, rhI v1), (2, rhJ v2), (4, rhI v4), (5, rhI v5), (6, rhI v6)] [] Γ M := by
  intro n
  induction n with
  | zero => intro M v0 v1 v2 v4 v5 v6; rw [f_X12_readHouse_121]; exact rhF.nope
  | succ n ih =>
    intro M v0 v1 v2 v4 v5 v6
    rw [f_X12_readHouse_121]
    refine rhF.iload (pc := 121) dX12_readHouse_121 5 rfl ?_
    refine rhF.iload_n (pc := 123) dX12_readHouse_123 1 rfl ?_
    refine rhF.icmp_ge (pc := 124) 161 dX12_readHouse_124 (by decide) (fun h33 => ?_) (fun h33 => ?_)
    · refine rhF.iload (pc := 127) dX12_readHouse_127 4 rfl ?_
      refine rhF.aload_n (pc := 129) dX12_readHouse_129 0 rfl ?_
      refine rhF.ck (fun h34 => ?_)
      refine rhF.get (pc := 130) (rhR _) dX12_readHouse_130 fl_X12_51 h34 rfl ?_
      refine rhF.iload (pc := 133) dX12_readHouse_133 5 rfl ?_
      refine rhF.ck (fun h35 => ?_)
      refine rhF.ck (fun h36 => ?_)
      refine rhF.iald (pc := 135) dX12_readHouse_135 h35 h36 ?_
      refine rhF.iload (pc := 136) dX12_readHouse_136 3 rfl ?_
      refine rhF.icmp_ne (pc := 138) 151 dX12_readHouse_138 (by decide) (fun h37 => ?_) (fun h37 => ?_)
      · refine rhF.aload_n (pc := 141) dX12_readHouse_141 0 rfl ?_
        refine rhF.get (pc := 142) (rhR _) dX12_readHouse_142 fl_X12_45 h34 rfl ?_
        refine rhF.iload (pc := 145) dX12_readHouse_145 5 rfl ?_
        refine rhF.ck (fun h38 => ?_)
        refine rhF.ck (fun h39 => ?_)
        refine rhF.iald (pc := 147) dX12_readHouse_147 h38 h39 ?_
        refine rhF.goto (pc := 148) 152 dX12_readHouse_148 (by decide) ?_
        refine rhF.sub [0, 1, 2, 3, 5] rfl ?_
        exact (b_X12_readHouse_152 ih) _ _ _ _ _ _ _ _
      · refine rhF.iconst (pc := 151) (v := 0) dX12_readHouse_151 (by decide) ?_
        refine rhF.sub [0, 1, 2, 3, 5] rfl ?_
        exact (b_X12_readHouse_152 ih) _ _ _ _ _ _ _ _
    · refine rhF.sub [0, 1, 2, 3, 4] rfl ?_
      exact hk161 _ _ _ _ _ _
set_option maxHeartbeats 4000000 in
set_option maxRecDepth 100000 in
theorem b_X12_readHouse_206 {E : rhE} {Γ : rhG} : ∀ (M : rhM) (v0 : Nat) (v1 : Int32) (v2 : Int64), rhF E 8 7 yX12_readHouse cX12_readHouse none Γ (rhe1U Γ) (f_X12_readHouse_206 Γ M v0 v1 v2) 206 [(0, rhR v0), (1, rhI v1), (2, rhJ v2)] [] Γ M := by
  intro M v0 v1 v2
  rw [f_X12_readHouse_206]
  refine rhF.aload_n (pc := 206) dX12_readHouse_206 0 rfl ?_
  refine rhF.ck (fun h46 => ?_)
  refine rhF.get (pc := 207) (rhR _) dX12_readHouse_207 fl_X12_74 h46 rfl ?_
  refine rhF.iload_n (pc := 210) dX12_readHouse_210 1 rfl ?_
  refine rhF.lload_n (pc := 211) dX12_readHouse_211 2 rfl ?_
  refine rhF.ck (fun h47 => ?_)
  refine rhF.ck (fun h48 => ?_)
  refine rhF.last (pc := 212) dX12_readHouse_212 h47 h48 ?_
  refine rhF.aload_n (pc := 213) dX12_readHouse_213 0 rfl ?_
  refine rhF.get (pc := 214) (rhR _) dX12_readHouse_214 fl_X12_24 h46 rfl ?_
  refine rhF.aload_n (pc := 217) dX12_readHouse_217 0 rfl ?_
  refine rhF.get (pc := 218) (rhI _) dX12_readHouse_218 fl_X12_318 h46 rfl ?_
  refine rhF.dup2ri (pc := 221) dX12_readHouse_221 ?_
  refine rhF.ck (fun h50 => ?_)
  refine rhF.ck (fun h51 => ?_)
  refine rhF.iald (pc := 222) dX12_readHouse_222 h50 h51 ?_
  refine rhF.iconst (pc := 223) (v := 1) dX12_readHouse_223 (by decide) ?_
  refine rhF.iadd (pc := 224) dX12_readHouse_224 ?_
  refine rhF.iast (pc := 225) dX12_readHouse_225 h50 h51 ?_
  exact rhF.vret (pc := 226) dX12_readHouse_226 rfl rfl
set_option maxHeartbeats 4000000 in
set_option maxRecDepth 100000 in
theorem b_X12_readHouse_161 {E : rhE} {Γ : rhG} : ∀ (M : rhM) (v0 : Nat) (v1 : Int32) (v2 : Int64) (v4 : Int32) (v5 : Int32), rhF E 8 7 yX12_readHouse cX12_readHouse none Γ (rhe1U Γ) (f_X12_readHouse_161 Γ M v0 v1 v2 v4 v5) 161 [(0, rhR v0), (1, rhI v1), (2, rhJ v2), (4, rhI v4), (5, rhI v5)] [] Γ M := by
  intro M v0 v1 v2 v4 v5
  rw [f_X12_readHouse_161]
  refine rhF.aload_n (pc := 161) dX12_readHouse_161 0 rfl ?_
  refine rhF.bipush (pc := 162) (v := 59) dX12_readHouse_162 (by decide) ?_
  refine rhF.ck (fun h42 => ?_)
  refine rhF.callV (pc := 164) (ci := 12) (embc := rhe0I _ _) [rhI _] dX12_readHouse_164 ml_X12_315 mv_X12_stands ⟨_, rfl, rfl⟩ h42 (c_X12_stands _ _ _ _ _) (by decide) (by decide) rfl (Nat.le_of_ble_eq_true rfl) (fun r43 _ => ?_)
  refine rhF.if_ne (pc := 167) 177 dX12_readHouse_167 (by decide) (fun h44 => ?_) (fun h44 => ?_)
  · refine rhF.aload_n (pc := 170) dX12_readHouse_170 0 rfl ?_
    refine rhF.callV (pc := 171) (ci := 12) (embc := rhe1U _) [] dX12_readHouse_171 ml_X12_301 mv_X12_misplaced ⟨_, rfl, rfl⟩ h42 (c_X12_misplaced _ _ _ _) (by decide) (by decide) rfl (Nat.le_of_ble_eq_true rfl) (fun r45 _ => ?_)
    refine rhF.goto (pc := 174) 206 dX12_readHouse_174 (by decide) ?_
    refine rhF.sub [0, 1, 2] rfl ?_
    exact (b_X12_readHouse_206) _ _ _ _
  · refine rhF.iload (pc := 177) dX12_readHouse_177 4 rfl ?_
    refine rhF.aload_n (pc := 179) dX12_readHouse_179 0 rfl ?_
    refine rhF.get (pc := 180) (rhR _) dX12_readHouse_180 fl_X12_42 h42 rfl ?_
    refine rhF.iconst (pc := 183) (v := 5) dX12_readHouse_183 (by decide) ?_
    refine rhF.aload_n (pc := 184) dX12_readHouse_184 0 rfl ?_
    refine rhF.get (pc := 185) (rhI _) dX12_readHouse_185 fl_X12_318 h42 rfl ?_
    refine rhF.imul (pc := 188) dX12_readHouse_188 ?_
    refine rhF.iload (pc := 189) dX12_readHouse_189 3 rfl ?_
    refine rhF.iadd (pc := 191) dX12_readHouse_191 ?_
    refine rhF.ck (fun h53 => ?_)
    refine rhF.ck (fun h54 => ?_)
    refine rhF.iald (pc := 192) dX12_readHouse_192 h53 h54 ?_
    refine rhF.icmp_le (pc := 193) 206 dX12_readHouse_193 (by decide) (fun h55 => ?_) (fun h55 => ?_)
    · refine rhF.aload_n (pc := 196) dX12_readHouse_196 0 rfl ?_
      refine rhF.bipush (pc := 197) (v := 6) dX12_readHouse_197 (by decide) ?_
      refine rhF.aload_n (pc := 199) dX12_readHouse_199 0 rfl ?_
      refine rhF.get (pc := 200) (rhI _) dX12_readHouse_200 fl_X12_259 h42 rfl ?_
      refine rhF.callV (pc := 203) (ci := 12) (embc := rhe1U _) [rhI _, rhI _] dX12_readHouse_203 ml_X12_290 mv_X12_fails ⟨_, rfl, rfl⟩ h42 (c_X12_fails _ _ _ _ _ _) (by decide) (by decide) rfl (Nat.le_of_ble_eq_true rfl) (fun r56 _ => ?_)
      refine rhF.sub [0, 1, 2] rfl ?_
      exact (b_X12_readHouse_206) _ _ _ _
    · refine rhF.sub [0, 1, 2] rfl ?_
      exact (b_X12_readHouse_206) _ _ _ _
set_option maxHeartbeats 4000000 in
set_option maxRecDepth 100000 in
theorem b_X12_readHouse_31 {E : rhE} {Γ : rhG} : ∀ (M : rhM) (v0 : Nat) (v1 : Int32) (s0 : Nat) (s1 : Int32), rhF E 8 7 yX12_readHouse cX12_readHouse none Γ (rhe1U Γ) (f_X12_readHouse_31 Γ M v0 v1 s0 s1) 31 [(0, rhR v0), (1, rhI v1)] [rhI s1, rhR s0] Γ M := by
  intro M v0 v1 s0 s1
  rw [f_X12_readHouse_31]
  refine rhF.ck (fun h7 => ?_)
  refine rhF.callV (pc := 31) (ci := 12) (embc := rhe1J _) [rhI _] dX12_readHouse_31 ml_X12_368 mv_X12_fresh ⟨_, rfl, rfl⟩ h7 (c_X12_fresh _ _ _ _ _) (by decide) (by decide) rfl (Nat.le_of_ble_eq_true rfl) (fun r8 _ => ?_)
  refine rhF.lstore_n (pc := 34) (L' := [(2, rhJ _), (0, rhR _), (1, rhI _)]) dX12_readHouse_34 (by decide) rfl ?_
  refine rhF.aload_n (pc := 35) dX12_readHouse_35 1 rfl ?_
  refine rhF.ck (fun h10 => ?_)
  refine rhF.get (pc := 36) (rhR _) dX12_readHouse_36 fl_X12_45 h10 rfl ?_
  refine rhF.iload_n (pc := 39) dX12_readHouse_39 2 rfl ?_
  refine rhF.aload_n (pc := 40) dX12_readHouse_40 1 rfl ?_
  refine rhF.ldc2 (pc := 41) dX12_readHouse_41 k_X12_222 ?_
  refine rhF.iconst (pc := 44) (v := 1) dX12_readHouse_44 (by decide) ?_
  refine rhF.bipush (pc := 45) (v := 9) dX12_readHouse_45 (by decide) ?_
  refine rhF.callV (pc := 47) (ci := 12) (embc := rhe1I _) [rhJ _, rhI _, rhI _] dX12_readHouse_47 ml_X12_372 mv_X12_after ⟨_, rfl, rfl⟩ h10 (c_X12_after _ _ _ _ _ _ _) (by decide) (by decide) rfl (Nat.le_of_ble_eq_true rfl) (fun r11 _ => ?_)
  refine rhF.ck (fun h12 => ?_)
  refine rhF.ck (fun h13 => ?_)
  refine rhF.iast (pc := 50) dX12_readHouse_50 h12 h13 ?_
  refine rhF.aload_n (pc := 51) dX12_readHouse_51 1 rfl ?_
  refine rhF.get (pc := 52) (rhR _) dX12_readHouse_52 fl_X12_48 h10 rfl ?_
  refine rhF.iload_n (pc := 55) dX12_readHouse_55 2 rfl ?_
  refine rhF.aload_n (pc := 56) dX12_readHouse_56 1 rfl ?_
  refine rhF.ldc2 (pc := 57) dX12_readHouse_57 k_X12_226 ?_
  refine rhF.iconst (pc := 60) (v := 1) dX12_readHouse_60 (by decide) ?_
  refine rhF.bipush (pc := 61) (v := 99) dX12_readHouse_61 (by decide) ?_
  refine rhF.callV (pc := 63) (ci := 12) (embc := rhe1I _) [rhJ _, rhI _, rhI _] dX12_readHouse_63 ml_X12_372 mv_X12_after ⟨_, rfl, rfl⟩ h10 (c_X12_after _ _ _ _ _ _ _) (by decide) (by decide) rfl (Nat.le_of_ble_eq_true rfl) (fun r15 _ => ?_)
  refine rhF.ck (fun h16 => ?_)
  refine rhF.ck (fun h17 => ?_)
  refine rhF.iast (pc := 66) dX12_readHouse_66 h16 h17 ?_
  refine rhF.aload_n (pc := 67) dX12_readHouse_67 1 rfl ?_
  refine rhF.aload_n (pc := 68) dX12_readHouse_68 1 rfl ?_
  refine rhF.ldc2 (pc := 69) dX12_readHouse_69 k_X12_228 ?_
  refine rhF.callV (pc := 72) (ci := 12) (embc := rhe0I _ _) [rhJ _] dX12_readHouse_72 ml_X12_304 mv_X12_isWord ⟨_, rfl, rfl⟩ h10 (c_X12_isWord _ _ _ _ _) (by decide) (by decide) rfl (Nat.le_of_ble_eq_true rfl) (fun r19 _ => ?_)
  refine rhF.callV (pc := 75) (ci := 12) (embc := rhe1U _) [rhI _] dX12_readHouse_75 ml_X12_307 mv_X12_must ⟨_, rfl, rfl⟩ h10 (c_X12_must _ _ _ _ _) (by decide) (by decide) rfl (Nat.le_of_ble_eq_true rfl) (fun r20 _ => ?_)
  refine rhF.aload_n (pc := 78) dX12_readHouse_78 1 rfl ?_
  refine rhF.aload_n (pc := 79) dX12_readHouse_79 1 rfl ?_
  refine rhF.callV (pc := 80) (ci := 12) (embc := rhe0I _ _) [] dX12_readHouse_80 ml_X12_364 mv_X12_railHere ⟨_, rfl, rfl⟩ h10 (c_X12_railHere _ _ _ _) (by decide) (by decide) rfl (Nat.le_of_ble_eq_true rfl) (fun r21 _ => ?_)
  refine rhF.callV (pc := 83) (ci := 12) (embc := rhe1I _) [rhI _] dX12_readHouse_83 ml_X12_379 mv_X12_known ⟨_, rfl, rfl⟩ h10 (c_X12_known _ _ _ _ _) (by decide) (by decide) rfl (Nat.le_of_ble_eq_true rfl) (fun r22 _ => ?_)
  refine rhF.istore (pc := 86) (L' := [(4, rhI _), (2, rhJ _), (0, rhR _), (1, rhI _)]) dX12_readHouse_86 (by decide) rfl ?_
  refine rhF.aload_n (pc := 88) dX12_readHouse_88 2 rfl ?_
  refine rhF.get (pc := 89) (rhR _) dX12_readHouse_89 fl_X12_51 h10 rfl ?_
  refine rhF.iload_n (pc := 92) dX12_readHouse_92 3 rfl ?_
  refine rhF.iload (pc := 93) dX12_readHouse_93 0 rfl ?_
  refine rhF.ck (fun h24 => ?_)
  refine rhF.ck (fun h25 => ?_)
  refine rhF.iast (pc := 95) dX12_readHouse_95 h24 h25 ?_
  refine rhF.aload_n (pc := 96) dX12_readHouse_96 2 rfl ?_
  refine rhF.callV (pc := 97) (ci := 12) (embc := rhe0I _ _) [] dX12_readHouse_97 ml_X12_294 mv_X12_isGood ⟨_, rfl, rfl⟩ h10 (c_X12_isGood _ _ _ _) (by decide) (by decide) rfl (Nat.le_of_ble_eq_true rfl) (fun r27 _ => ?_)
  refine rhF.if_ne (pc := 100) 104 dX12_readHouse_100 (by decide) (fun h28 => ?_) (fun h28 => ?_)
  · exact rhF.vret (pc := 103) dX12_readHouse_103 rfl rfl
  · refine rhF.aload_n (pc := 104) dX12_readHouse_104 2 rfl ?_
    refine rhF.get (pc := 105) (rhR _) dX12_readHouse_105 fl_X12_45 h10 rfl ?_
    refine rhF.iload_n (pc := 108) dX12_readHouse_108 3 rfl ?_
    refine rhF.ck (fun h29 => ?_)
    refine rhF.ck (fun h30 => ?_)
    refine rhF.iald (pc := 109) dX12_readHouse_109 h29 h30 ?_
    refine rhF.istore (pc := 110) (L' := [(5, rhI _), (4, rhI _), (2, rhJ _), (0, rhR _), (1, rhI _)]) dX12_readHouse_110 (by decide) rfl ?_
    refine rhF.bipush (pc := 112) (v := 8) dX12_readHouse_112 (by decide) ?_
    refine rhF.aload_n (pc := 114) dX12_readHouse_114 3 rfl ?_
    refine rhF.get (pc := 115) (rhI _) dX12_readHouse_115 fl_X12_318 h10 rfl ?_
    refine rhF.imul (pc := 118) dX12_readHouse_118 ?_
    refine rhF.istore (pc := 119) (L' := [(6, rhI _), (5, rhI _), (4, rhI _), (2, rhJ _), (0, rhR _), (1, rhI _)]) dX12_readHouse_119 (by decide) rfl ?_
    refine rhF.sub [4, 5, 3, 2, 1, 0] rfl ?_
    exact (b_X12_readHouse_121 (b_X12_readHouse_161) rhFU) _ _ _ _ _ _ _
set_option maxHeartbeats 4000000 in
set_option maxRecDepth 100000 in
theorem b_X12_readHouse {E : rhE} {Γ : rhG} : ∀ (M : rhM) (v0 : Nat), rhF E 8 7 yX12_readHouse cX12_readHouse none Γ (rhe1U Γ) (f_X12_readHouse Γ M v0) 0 [(0, rhR v0)] [] Γ M := by
  intro M v0
  rw [f_X12_readHouse]
  refine rhF.bipush (pc := 0) (v := 8) dX12_readHouse_0 (by decide) ?_
  refine rhF.aload_n (pc := 2) dX12_readHouse_2 0 rfl ?_
  refine rhF.ck (fun h1 => ?_)
  refine rhF.get (pc := 3) (rhI _) dX12_readHouse_3 fl_X12_318 h1 rfl ?_
  refine rhF.imul (pc := 6) dX12_readHouse_6 ?_
  refine rhF.aload_n (pc := 7) dX12_readHouse_7 0 rfl ?_
  refine rhF.get (pc := 8) (rhR _) dX12_readHouse_8 fl_X12_24 h1 rfl ?_
  refine rhF.aload_n (pc := 11) dX12_readHouse_11 0 rfl ?_
  refine rhF.get (pc := 12) (rhI _) dX12_readHouse_12 fl_X12_318 h1 rfl ?_
  refine rhF.ck (fun h2 => ?_)
  refine rhF.ck (fun h3 => ?_)
  refine rhF.iald (pc := 15) dX12_readHouse_15 h2 h3 ?_
  refine rhF.iadd (pc := 16) dX12_readHouse_16 ?_
  refine rhF.istore_n (pc := 17) (L' := [(1, rhI _), (0, rhR _)]) dX12_readHouse_17 (by decide) rfl ?_
  refine rhF.aload_n (pc := 18) dX12_readHouse_18 1 rfl ?_
  refine rhF.aload_n (pc := 19) dX12_readHouse_19 1 rfl ?_
  refine rhF.callV (pc := 20) (ci := 12) (embc := rhe0I _ _) [] dX12_readHouse_20 ml_X12_376 mv_X12_houseHere ⟨_, rfl, rfl⟩ h1 (c_X12_houseHere _ _ _ _) (by decide) (by decide) rfl (Nat.le_of_ble_eq_true rfl) (fun r5 _ => ?_)
  refine rhF.if_lt (pc := 23) 30 dX12_readHouse_23 (by decide) (fun h6 => ?_) (fun h6 => ?_)
  · refine rhF.iconst (pc := 30) (v := 0) dX12_readHouse_30 (by decide) ?_
    refine rhF.sub [1, 0] rfl ?_
    exact (b_X12_readHouse_31) _ _ _ _ _
  · refine rhF.iconst (pc := 26) (v := 1) dX12_readHouse_26 (by decide) ?_
    refine rhF.goto (pc := 27) 31 dX12_readHouse_27 (by decide) ?_
    refine rhF.sub [1, 0] rfl ?_
    exact (b_X12_readHouse_31) _ _ _ _ _
theorem c_X12_readHouse (E : rhE) (Γ : rhG) (M : rhM) (v0 : Nat) : ∀ a, f_X12_readHouse Γ M v0 = some a → rhC E 8 yX12_readHouse cX12_readHouse 7 none [rhR v0] Γ M ((rhe1U Γ) a) := rhF.met (by decide +kernel) (Nat.le_of_ble_eq_true rfl) (b_X12_readHouse M v0)
def f_X12_readRail_35 (Γ : rhG) (M : rhM) (v0 : Nat) (v1 : Int32) (s0 : Nat) (s1 : Int32) (s2 : Nat) (s3 : Int32) : Option (rhM) :=
  rhck (Γ.2.2.1 s2 = 13) <|
  (f_X12_fresh Γ M s2 s3).bind fun r8 =>
  rhck (Γ.2.2.1 s0 = 16) <|
  rhck (0 ≤ (s1).toInt ∧ (s1).toInt < (Γ.2.2.2 s0 : Nat)) <|
  let M11 := rhsl r8.2 s0 (s1 : Int32).toNatClampNeg r8.1
  rhck (Γ.2.2.1 v0 = 13) <|
  (f_X12_after Γ M11 v0 ((119182899770472 : Int64)) (1 : Int32) (99 : Int32)).bind fun r13 =>
  rhck (Γ.2.2.1 (r8.2.2.2 v0 18) = 15) <|
  rhck (0 ≤ (v1).toInt ∧ (v1).toInt < (Γ.2.2.2 (r8.2.2.2 v0 18) : Nat)) <|
  let M16 := rhsi r13.2 (r8.2.2.2 v0 18) (v1 : Int32).toNatClampNeg r13.1
  rhck (Γ.2.2.1 (r13.2.2.2 v0 11) = 15) <|
  rhck (0 ≤ (M16.1 v0 35).toInt ∧ (M16.1 v0 35).toInt < (Γ.2.2.2 (r13.2.2.2 v0 11) : Nat)) <|
  let M19 := rhsi M16 (r13.2.2.2 v0 11) (M16.1 v0 35 : Int32).toNatClampNeg ((M16.1 (r13.2.2.2 v0 11) (M16.1 v0 35).toNatClampNeg) + 1)
  some M19
def f_X12_readRail (Γ : rhG) (M : rhM) (v0 : Nat) : Option (rhM) :=
  rhck (Γ.2.2.1 v0 = 13) <|
  rhck (Γ.2.2.1 (M.2.2 v0 11) = 15) <|
  rhck (0 ≤ (M.1 v0 35).toInt ∧ (M.1 v0 35).toInt < (Γ.2.2.2 (M.2.2 v0 11) : Nat)) <|
  let x4 := (5 * (M.1 v0 35)) + (M.1 (M.2.2 v0 11) (M.1 v0 35).toNatClampNeg)
  (f_X12_railHere Γ M v0).bind fun r5 =>
  if r5 < 0 then
    (f_X12_readRail_35 Γ M v0 x4 (M.2.2 v0 27) x4 v0 0)
  else
    f_X12_readRail_35 Γ M v0 x4 (M.2.2 v0 27) x4 v0 1
set_option maxHeartbeats 4000000 in
set_option maxRecDepth 100000 in
theorem b_X12_readRail_35 {E : rhE} {Γ : rhG} : ∀ (M : rhM) (v0 : Nat) (v1 : Int32) (s0 : Nat) (s1 : Int32) (s2 : Nat) (s3 : Int32), rhF E 8 2 yX12_readRail cX12_readRail none Γ (rhe1U Γ) (f_X12_readRail_35 Γ M v0 v1 s0 s1 s2 s3) 35 [(0, rhR v0), (1, rhI v1)] [rhI s3, rhR s2, rhI s1, rhR s0] Γ M := by
  intro M v0 v1 s0 s1 s2 s3
  rw [f_X12_readRail_35]
  refine rhF.ck (fun h7 => ?_)
  refine rhF.callV (pc := 35) (ci := 12) (embc := rhe1J _) [rhI _] dX12_readRail_35 ml_X12_368 mv_X12_fresh ⟨_, rfl, rfl⟩ h7 (c_X12_fresh _ _ _ _ _) (by decide) (by decide) rfl (Nat.le_of_ble_eq_true rfl) (fun r8 _ => ?_)
  refine rhF.ck (fun h9 => ?_)
  refine rhF.ck (fun h10 => ?_)
  refine rhF.last (pc := 38) dX12_readRail_38 h9 h10 ?_
  refine rhF.aload_n (pc := 39) dX12_readRail_39 0 rfl ?_
  refine rhF.ck (fun h12 => ?_)
  refine rhF.get (pc := 40) (rhR _) dX12_readRail_40 fl_X12_42 h12 rfl ?_
  refine rhF.iload_n (pc := 43) dX12_readRail_43 1 rfl ?_
  refine rhF.aload_n (pc := 44) dX12_readRail_44 0 rfl ?_
  refine rhF.ldc2 (pc := 45) dX12_readRail_45 k_X12_222 ?_
  refine rhF.iconst (pc := 48) (v := 1) dX12_readRail_48 (by decide) ?_
  refine rhF.bipush (pc := 49) (v := 99) dX12_readRail_49 (by decide) ?_
  refine rhF.callV (pc := 51) (ci := 12) (embc := rhe1I _) [rhJ _, rhI _, rhI _] dX12_readRail_51 ml_X12_372 mv_X12_after ⟨_, rfl, rfl⟩ h12 (c_X12_after _ _ _ _ _ _ _) (by decide) (by decide) rfl (Nat.le_of_ble_eq_true rfl) (fun r13 _ => ?_)
  refine rhF.ck (fun h14 => ?_)
  refine rhF.ck (fun h15 => ?_)
  refine rhF.iast (pc := 54) dX12_readRail_54 h14 h15 ?_
  refine rhF.aload_n (pc := 55) dX12_readRail_55 0 rfl ?_
  refine rhF.get (pc := 56) (rhR _) dX12_readRail_56 fl_X12_20 h12 rfl ?_
  refine rhF.aload_n (pc := 59) dX12_readRail_59 0 rfl ?_
  refine rhF.get (pc := 60) (rhI _) dX12_readRail_60 fl_X12_318 h12 rfl ?_
  refine rhF.dup2ri (pc := 63) dX12_readRail_63 ?_
  refine rhF.ck (fun h17 => ?_)
  refine rhF.ck (fun h18 => ?_)
  refine rhF.iald (pc := 64) dX12_readRail_64 h17 h18 ?_
  refine rhF.iconst (pc := 65) (v := 1) dX12_readRail_65 (by decide) ?_
  refine rhF.iadd (pc := 66) dX12_readRail_66 ?_
  refine rhF.iast (pc := 67) dX12_readRail_67 h17 h18 ?_
  exact rhF.vret (pc := 68) dX12_readRail_68 rfl rfl
set_option maxHeartbeats 4000000 in
set_option maxRecDepth 100000 in
theorem b_X12_readRail {E : rhE} {Γ : rhG} : ∀ (M : rhM) (v0 : Nat), rhF E 8 2 yX12_readRail cX12_readRail none Γ (rhe1U Γ) (f_X12_readRail Γ M v0) 0 [(0, rhR v0)] [] Γ M := by
  intro M v0
  rw [f_X12_readRail]
  refine rhF.iconst (pc := 0) (v := 5) dX12_readRail_0 (by decide) ?_
  refine rhF.aload_n (pc := 1) dX12_readRail_1 0 rfl ?_
  refine rhF.ck (fun h1 => ?_)
  refine rhF.get (pc := 2) (rhI _) dX12_readRail_2 fl_X12_318 h1 rfl ?_
  refine rhF.imul (pc := 5) dX12_readRail_5 ?_
  refine rhF.aload_n (pc := 6) dX12_readRail_6 0 rfl ?_
  refine rhF.get (pc := 7) (rhR _) dX12_readRail_7 fl_X12_20 h1 rfl ?_
  refine rhF.aload_n (pc := 10) dX12_readRail_10 0 rfl ?_
  refine rhF.get (pc := 11) (rhI _) dX12_readRail_11 fl_X12_318 h1 rfl ?_
  refine rhF.ck (fun h2 => ?_)
  refine rhF.ck (fun h3 => ?_)
  refine rhF.iald (pc := 14) dX12_readRail_14 h2 h3 ?_
  refine rhF.iadd (pc := 15) dX12_readRail_15 ?_
  refine rhF.istore_n (pc := 16) (L' := [(1, rhI _), (0, rhR _)]) dX12_readRail_16 (by decide) rfl ?_
  refine rhF.aload_n (pc := 17) dX12_readRail_17 1 rfl ?_
  refine rhF.get (pc := 18) (rhR _) dX12_readRail_18 fl_X12_70 h1 rfl ?_
  refine rhF.iload_n (pc := 21) dX12_readRail_21 0 rfl ?_
  refine rhF.aload_n (pc := 22) dX12_readRail_22 1 rfl ?_
  refine rhF.aload_n (pc := 23) dX12_readRail_23 1 rfl ?_
  refine rhF.callV (pc := 24) (ci := 12) (embc := rhe0I _ _) [] dX12_readRail_24 ml_X12_364 mv_X12_railHere ⟨_, rfl, rfl⟩ h1 (c_X12_railHere _ _ _ _) (by decide) (by decide) rfl (Nat.le_of_ble_eq_true rfl) (fun r5 _ => ?_)
  refine rhF.if_lt (pc := 27) 34 dX12_readRail_27 (by decide) (fun h6 => ?_) (fun h6 => ?_)
  · refine rhF.iconst (pc := 34) (v := 0) dX12_readRail_34 (by decide) ?_
    refine rhF.sub [1, 0] rfl ?_
    exact (b_X12_readRail_35) _ _ _ _ _ _ _
  · refine rhF.iconst (pc := 30) (v := 1) dX12_readRail_30 (by decide) ?_
    refine rhF.goto (pc := 31) 35 dX12_readRail_31 (by decide) ?_
    refine rhF.sub [1, 0] rfl ?_
    exact (b_X12_readRail_35) _ _ _ _ _ _ _
theorem c_X12_readRail (E : rhE) (Γ : rhG) (M : rhM) (v0 : Nat) : ∀ a, f_X12_readRail Γ M v0 = some a → rhC E 8 yX12_readRail cX12_readRail 2 none [rhR v0] Γ M ((rhe1U Γ) a) := rhF.met (by decide +kernel) (Nat.le_of_ble_eq_true rfl) (b_X12_readRail M v0)
def f_X12_readLine_177 (Γ : rhG) (M : rhM) (v0 : Nat) : Option (rhM) :=
  rhck (Γ.2.2.1 v0 = 13) <|
  (f_X12_stands Γ M v0 (59 : Int32)).bind fun r46 =>
  (f_X12_must Γ M v0 r46).bind fun r47 =>
  some r47
def f_X12_readLine_142 (Γ : rhG) (M : rhM) (v0 : Nat) (v1 : Int64) : Option (rhM) :=
  if v1 = ((7102839 : Int64)) then
    (rhck (Γ.2.2.1 v0 = 13) <|
    rhck (Γ.2.2.1 (M.2.2 v0 25) = 17) <|
    rhck (0 ≤ (M.1 v0 35).toInt ∧ (M.1 v0 35).toInt < (Γ.2.2.2 (M.2.2 v0 25) : Nat)) <|
    let M40 := rhsi M (M.2.2 v0 25) (M.1 v0 35 : Int32).toNatClampNeg (vp_nar .boolean 1)
    (f_X12_e Γ M40 v0).bind fun r41 =>
    rhck (Γ.2.2.1 (r41.2.2 v0 17) = 15) <|
    rhck (0 ≤ (r41.1 v0 35).toInt ∧ (r41.1 v0 35).toInt < (Γ.2.2.2 (r41.2.2 v0 17) : Nat)) <|
    let M44 := rhsi r41 (r41.2.2 v0 17) (r41.1 v0 35 : Int32).toNatClampNeg (r41.1 v0 36)
    f_X12_readLine_177 Γ M44 v0)
  else
    f_X12_readLine_177 Γ M v0
def f_X12_readLine_107 (Γ : rhG) (M : rhM) (v0 : Nat) (v1 : Int64) : Option (rhM) :=
  if v1 = ((431415719795 : Int64)) then
    (rhck (Γ.2.2.1 v0 = 13) <|
    rhck (Γ.2.2.1 (M.2.2 v0 24) = 17) <|
    rhck (0 ≤ (M.1 v0 35).toInt ∧ (M.1 v0 35).toInt < (Γ.2.2.2 (M.2.2 v0 24) : Nat)) <|
    let M31 := rhsi M (M.2.2 v0 24) (M.1 v0 35 : Int32).toNatClampNeg (vp_nar .boolean 1)
    (f_X12_numeral Γ M31 v0 (1 : Int32) (999 : Int32)).bind fun r32 =>
    rhck (Γ.2.2.1 (M.2.2 v0 16) = 15) <|
    rhck (0 ≤ (M31.1 v0 35).toInt ∧ (M31.1 v0 35).toInt < (Γ.2.2.2 (M.2.2 v0 16) : Nat)) <|
    let M35 := rhsi r32.2 (M.2.2 v0 16) (M31.1 v0 35 : Int32).toNatClampNeg r32.1
    f_X12_readLine_142 Γ M35 v0 v1)
  else
    f_X12_readLine_142 Γ M v0 v1
def f_X12_readLine_72 (Γ : rhG) (M : rhM) (v0 : Nat) (v1 : Int64) : Option (rhM) :=
  if v1 = ((1852138347 : Int64)) then
    (rhck (Γ.2.2.1 v0 = 13) <|
    rhck (Γ.2.2.1 (M.2.2 v0 23) = 17) <|
    rhck (0 ≤ (M.1 v0 35).toInt ∧ (M.1 v0 35).toInt < (Γ.2.2.2 (M.2.2 v0 23) : Nat)) <|
    let M22 := rhsi M (M.2.2 v0 23) (M.1 v0 35 : Int32).toNatClampNeg (vp_nar .boolean 1)
    (f_X12_numeral Γ M22 v0 (1 : Int32) (999 : Int32)).bind fun r23 =>
    rhck (Γ.2.2.1 (M.2.2 v0 15) = 15) <|
    rhck (0 ≤ (M22.1 v0 35).toInt ∧ (M22.1 v0 35).toInt < (Γ.2.2.2 (M.2.2 v0 15) : Nat)) <|
    let M26 := rhsi r23.2 (M.2.2 v0 15) (M22.1 v0 35 : Int32).toNatClampNeg r23.1
    f_X12_readLine_107 Γ M26 v0 v1)
  else
    f_X12_readLine_107 Γ M v0 v1
def f_X12_readLine_60 (Γ : rhG) (M : rhM) (v0 : Nat) (v1 : Int64) : Option (rhM) :=
  if v1 = ((108187867505765 : Int64)) then
    (rhck (Γ.2.2.1 v0 = 13) <|
    (f_X12_readBeside Γ M v0).bind fun r17 =>
    f_X12_readLine_72 Γ r17 v0 v1)
  else
    f_X12_readLine_72 Γ M v0 v1
def f_X12_readLine_48 (Γ : rhG) (M : rhM) (v0 : Nat) (v1 : Int64) : Option (rhM) :=
  if v1 = ((448546567013 : Int64)) then
    (rhck (Γ.2.2.1 v0 = 13) <|
    (f_X12_readHouse Γ M v0).bind fun r14 =>
    f_X12_readLine_60 Γ r14 v0 v1)
  else
    f_X12_readLine_60 Γ M v0 v1
def f_X12_readLine_24 (Γ : rhG) (M : rhM) (v0 : Nat) (v1 : Int64) : Option (rhM) :=
  rhck (Γ.2.2.1 v0 = 13) <|
  (f_X12_isGood Γ M v0).bind fun r7 =>
  if r7 = 0 then
    (some M)
  else
    (f_X12_goOn Γ M v0).bind fun r9 =>
    if v1 = ((1918986604 : Int64)) then
      ((f_X12_readRail Γ r9 v0).bind fun r11 =>
      f_X12_readLine_48 Γ r11 v0 v1)
    else
      f_X12_readLine_48 Γ r9 v0 v1
def f_X12_readLine_20 (k24 : rhM → Nat → Int64 → Option (rhM)) (Γ : rhG) (M : rhM) (v0 : Nat) (v1 : Int64) : Option (rhM) :=
  rhck (Γ.2.2.1 v0 = 13) <|
  (f_X12_misplaced Γ M v0).bind fun r49 =>
  k24 r49 v0 v1
def f_X12_readLine (Γ : rhG) (M : rhM) (v0 : Nat) : Option (rhM) :=
  rhck (Γ.2.2.1 v0 = 13) <|
  let x2 := M.2.1 v0 10
  if (M.1 v0 8) = 3 then
    ((f_X12_isFull Γ M v0).bind fun r4 =>
    if r4 = 0 then
      (f_X12_readLine_24 Γ M v0 x2)
    else
      f_X12_readLine_20 (f_X12_readLine_24 Γ) Γ M v0 x2)
  else
    f_X12_readLine_20 (f_X12_readLine_24 Γ) Γ M v0 x2
set_option maxHeartbeats 4000000 in
set_option maxRecDepth 100000 in
theorem b_X12_readLine_177 {E : rhE} {Γ : rhG} : ∀ (M : rhM) (v0 : Nat), rhF E 9 3 yX12_readLine cX12_readLine none Γ (rhe1U Γ) (f_X12_readLine_177 Γ M v0) 177 [(0, rhR v0)] [] Γ M := by
  intro M v0
  rw [f_X12_readLine_177]
  refine rhF.aload_n (pc := 177) dX12_readLine_177 0 rfl ?_
  refine rhF.aload_n (pc := 178) dX12_readLine_178 0 rfl ?_
  refine rhF.bipush (pc := 179) (v := 59) dX12_readLine_179 (by decide) ?_
  refine rhF.ck (fun h45 => ?_)
  refine rhF.callV (pc := 181) (ci := 12) (embc := rhe0I _ _) [rhI _] dX12_readLine_181 ml_X12_315 mv_X12_stands ⟨_, rfl, rfl⟩ h45 (c_X12_stands _ _ _ _ _) (by decide) (by decide) rfl (Nat.le_of_ble_eq_true rfl) (fun r46 _ => ?_)
  refine rhF.callV (pc := 184) (ci := 12) (embc := rhe1U _) [rhI _] dX12_readLine_184 ml_X12_307 mv_X12_must ⟨_, rfl, rfl⟩ h45 (c_X12_must _ _ _ _ _) (by decide) (by decide) rfl (Nat.le_of_ble_eq_true rfl) (fun r47 _ => ?_)
  exact rhF.vret (pc := 187) dX12_readLine_187 rfl rfl
set_option maxHeartbeats 4000000 in
set_option maxRecDepth 100000 in
theorem b_X12_readLine_142 {E : rhE} {Γ : rhG} : ∀ (M : rhM) (v0 : Nat) (v1 : Int64), rhF E 9 3 yX12_readLine cX12_readLine none Γ (rhe1U Γ) (f_X12_readLine_142 Γ M v0 v1) 142 [(0, rhR v0), (1, rhJ v1)] [] Γ M := by
  intro M v0 v1
  rw [f_X12_readLine_142]
  refine rhF.lload_n (pc := 142) dX12_readLine_142 1 rfl ?_
  refine rhF.ldc2 (pc := 143) dX12_readLine_143 k_X12_238 ?_
  refine rhF.lcne (pc := 146) 177 dX12_readLine_146 dX12_readLine_147 (by decide) (fun h36 => ?_) (fun h36 => ?_)
  · refine rhF.aload_n (pc := 150) dX12_readLine_150 0 rfl ?_
    refine rhF.ck (fun h37 => ?_)
    refine rhF.get (pc := 151) (rhR _) dX12_readLine_151 fl_X12_64 h37 rfl ?_
    refine rhF.aload_n (pc := 154) dX12_readLine_154 0 rfl ?_
    refine rhF.get (pc := 155) (rhI _) dX12_readLine_155 fl_X12_318 h37 rfl ?_
    refine rhF.iconst (pc := 158) (v := 1) dX12_readLine_158 (by decide) ?_
    refine rhF.ck (fun h38 => ?_)
    refine rhF.ck (fun h39 => ?_)
    refine rhF.zast (pc := 159) dX12_readLine_159 h38 h39 ?_
    refine rhF.aload_n (pc := 160) dX12_readLine_160 0 rfl ?_
    refine rhF.callV (pc := 161) (ci := 12) (embc := rhe1U _) [] dX12_readLine_161 ml_X12_357 mv_X12_e ⟨_, rfl, rfl⟩ h37 (c_X12_e _ _ _ _) (by decide) (by decide) rfl (Nat.le_of_ble_eq_true rfl) (fun r41 _ => ?_)
    refine rhF.aload_n (pc := 164) dX12_readLine_164 0 rfl ?_
    refine rhF.get (pc := 165) (rhR _) dX12_readLine_165 fl_X12_39 h37 rfl ?_
    refine rhF.aload_n (pc := 168) dX12_readLine_168 0 rfl ?_
    refine rhF.get (pc := 169) (rhI _) dX12_readLine_169 fl_X12_318 h37 rfl ?_
    refine rhF.aload_n (pc := 172) dX12_readLine_172 0 rfl ?_
    refine rhF.get (pc := 173) (rhI _) dX12_readLine_173 fl_X12_321 h37 rfl ?_
    refine rhF.ck (fun h42 => ?_)
    refine rhF.ck (fun h43 => ?_)
    refine rhF.iast (pc := 176) dX12_readLine_176 h42 h43 ?_
    refine rhF.sub [0] rfl ?_
    exact (b_X12_readLine_177) _ _
  · refine rhF.sub [0] rfl ?_
    exact (b_X12_readLine_177) _ _
set_option maxHeartbeats 4000000 in
set_option maxRecDepth 100000 in
theorem b_X12_readLine_107 {E : rhE} {Γ : rhG} : ∀ (M : rhM) (v0 : Nat) (v1 : Int64), rhF E 9 3 yX12_readLine cX12_readLine none Γ (rhe1U Γ) (f_X12_readLine_107 Γ M v0 v1) 107 [(0, rhR v0), (1, rhJ v1)] [] Γ M := by
  intro M v0 v1
  rw [f_X12_readLine_107]
  refine rhF.lload_n (pc := 107) dX12_readLine_107 1 rfl ?_
  refine rhF.ldc2 (pc := 108) dX12_readLine_108 k_X12_236 ?_
  refine rhF.lcne (pc := 111) 142 dX12_readLine_111 dX12_readLine_112 (by decide) (fun h27 => ?_) (fun h27 => ?_)
  · refine rhF.aload_n (pc := 115) dX12_readLine_115 0 rfl ?_
    refine rhF.ck (fun h28 => ?_)
    refine rhF.get (pc := 116) (rhR _) dX12_readLine_116 fl_X12_61 h28 rfl ?_
    refine rhF.aload_n (pc := 119) dX12_readLine_119 0 rfl ?_
    refine rhF.get (pc := 120) (rhI _) dX12_readLine_120 fl_X12_318 h28 rfl ?_
    refine rhF.iconst (pc := 123) (v := 1) dX12_readLine_123 (by decide) ?_
    refine rhF.ck (fun h29 => ?_)
    refine rhF.ck (fun h30 => ?_)
    refine rhF.zast (pc := 124) dX12_readLine_124 h29 h30 ?_
    refine rhF.aload_n (pc := 125) dX12_readLine_125 0 rfl ?_
    refine rhF.get (pc := 126) (rhR _) dX12_readLine_126 fl_X12_36 h28 rfl ?_
    refine rhF.aload_n (pc := 129) dX12_readLine_129 0 rfl ?_
    refine rhF.get (pc := 130) (rhI _) dX12_readLine_130 fl_X12_318 h28 rfl ?_
    refine rhF.aload_n (pc := 133) dX12_readLine_133 0 rfl ?_
    refine rhF.iconst (pc := 134) (v := 1) dX12_readLine_134 (by decide) ?_
    refine rhF.sipush (pc := 135) (v := 999) dX12_readLine_135 (by decide) ?_
    refine rhF.callV (pc := 138) (ci := 12) (embc := rhe1I _) [rhI _, rhI _] dX12_readLine_138 ml_X12_311 mv_X12_numeral ⟨_, rfl, rfl⟩ h28 (c_X12_numeral _ _ _ _ _ _) (by decide) (by decide) rfl (Nat.le_of_ble_eq_true rfl) (fun r32 _ => ?_)
    refine rhF.ck (fun h33 => ?_)
    refine rhF.ck (fun h34 => ?_)
    refine rhF.iast (pc := 141) dX12_readLine_141 h33 h34 ?_
    exact (b_X12_readLine_142) _ _ _
  · exact (b_X12_readLine_142) _ _ _
set_option maxHeartbeats 4000000 in
set_option maxRecDepth 100000 in
theorem b_X12_readLine_72 {E : rhE} {Γ : rhG} : ∀ (M : rhM) (v0 : Nat) (v1 : Int64), rhF E 9 3 yX12_readLine cX12_readLine none Γ (rhe1U Γ) (f_X12_readLine_72 Γ M v0 v1) 72 [(0, rhR v0), (1, rhJ v1)] [] Γ M := by
  intro M v0 v1
  rw [f_X12_readLine_72]
  refine rhF.lload_n (pc := 72) dX12_readLine_72 1 rfl ?_
  refine rhF.ldc2 (pc := 73) dX12_readLine_73 k_X12_234 ?_
  refine rhF.lcne (pc := 76) 107 dX12_readLine_76 dX12_readLine_77 (by decide) (fun h18 => ?_) (fun h18 => ?_)
  · refine rhF.aload_n (pc := 80) dX12_readLine_80 0 rfl ?_
    refine rhF.ck (fun h19 => ?_)
    refine rhF.get (pc := 81) (rhR _) dX12_readLine_81 fl_X12_57 h19 rfl ?_
    refine rhF.aload_n (pc := 84) dX12_readLine_84 0 rfl ?_
    refine rhF.get (pc := 85) (rhI _) dX12_readLine_85 fl_X12_318 h19 rfl ?_
    refine rhF.iconst (pc := 88) (v := 1) dX12_readLine_88 (by decide) ?_
    refine rhF.ck (fun h20 => ?_)
    refine rhF.ck (fun h21 => ?_)
    refine rhF.zast (pc := 89) dX12_readLine_89 h20 h21 ?_
    refine rhF.aload_n (pc := 90) dX12_readLine_90 0 rfl ?_
    refine rhF.get (pc := 91) (rhR _) dX12_readLine_91 fl_X12_33 h19 rfl ?_
    refine rhF.aload_n (pc := 94) dX12_readLine_94 0 rfl ?_
    refine rhF.get (pc := 95) (rhI _) dX12_readLine_95 fl_X12_318 h19 rfl ?_
    refine rhF.aload_n (pc := 98) dX12_readLine_98 0 rfl ?_
    refine rhF.iconst (pc := 99) (v := 1) dX12_readLine_99 (by decide) ?_
    refine rhF.sipush (pc := 100) (v := 999) dX12_readLine_100 (by decide) ?_
    refine rhF.callV (pc := 103) (ci := 12) (embc := rhe1I _) [rhI _, rhI _] dX12_readLine_103 ml_X12_311 mv_X12_numeral ⟨_, rfl, rfl⟩ h19 (c_X12_numeral _ _ _ _ _ _) (by decide) (by decide) rfl (Nat.le_of_ble_eq_true rfl) (fun r23 _ => ?_)
    refine rhF.ck (fun h24 => ?_)
    refine rhF.ck (fun h25 => ?_)
    refine rhF.iast (pc := 106) dX12_readLine_106 h24 h25 ?_
    exact (b_X12_readLine_107) _ _ _
  · exact (b_X12_readLine_107) _ _ _
set_option maxHeartbeats 4000000 in
set_option maxRecDepth 100000 in
theorem b_X12_readLine_60 {E : rhE} {Γ : rhG} : ∀ (M : rhM) (v0 : Nat) (v1 : Int64), rhF E 9 3 yX12_readLine cX12_readLine none Γ (rhe1U Γ) (f_X12_readLine_60 Γ M v0 v1) 60 [(0, rhR v0), (1, rhJ v1)] [] Γ M := by
  intro M v0 v1
  rw [f_X12_readLine_60]
  refine rhF.lload_n (pc := 60) dX12_readLine_60 1 rfl ?_
  refine rhF.ldc2 (pc := 61) dX12_readLine_61 k_X12_230 ?_
  refine rhF.lcne (pc := 64) 72 dX12_readLine_64 dX12_readLine_65 (by decide) (fun h15 => ?_) (fun h15 => ?_)
  · refine rhF.aload_n (pc := 68) dX12_readLine_68 0 rfl ?_
    refine rhF.ck (fun h16 => ?_)
    refine rhF.callV (pc := 69) (ci := 12) (embc := rhe1U _) [] dX12_readLine_69 ml_X12_354 mv_X12_readBeside ⟨_, rfl, rfl⟩ h16 (c_X12_readBeside _ _ _ _) (by decide) (by decide) rfl (Nat.le_of_ble_eq_true rfl) (fun r17 _ => ?_)
    exact (b_X12_readLine_72) _ _ _
  · exact (b_X12_readLine_72) _ _ _
set_option maxHeartbeats 4000000 in
set_option maxRecDepth 100000 in
theorem b_X12_readLine_48 {E : rhE} {Γ : rhG} : ∀ (M : rhM) (v0 : Nat) (v1 : Int64), rhF E 9 3 yX12_readLine cX12_readLine none Γ (rhe1U Γ) (f_X12_readLine_48 Γ M v0 v1) 48 [(0, rhR v0), (1, rhJ v1)] [] Γ M := by
  intro M v0 v1
  rw [f_X12_readLine_48]
  refine rhF.lload_n (pc := 48) dX12_readLine_48 1 rfl ?_
  refine rhF.ldc2 (pc := 49) dX12_readLine_49 k_X12_224 ?_
  refine rhF.lcne (pc := 52) 60 dX12_readLine_52 dX12_readLine_53 (by decide) (fun h12 => ?_) (fun h12 => ?_)
  · refine rhF.aload_n (pc := 56) dX12_readLine_56 0 rfl ?_
    refine rhF.ck (fun h13 => ?_)
    refine rhF.callV (pc := 57) (ci := 12) (embc := rhe1U _) [] dX12_readLine_57 ml_X12_351 mv_X12_readHouse ⟨_, rfl, rfl⟩ h13 (c_X12_readHouse _ _ _ _) (by decide) (by decide) rfl (Nat.le_of_ble_eq_true rfl) (fun r14 _ => ?_)
    exact (b_X12_readLine_60) _ _ _
  · exact (b_X12_readLine_60) _ _ _
set_option maxHeartbeats 4000000 in
set_option maxRecDepth 100000 in
theorem b_X12_readLine_24 {E : rhE} {Γ : rhG} : ∀ (M : rhM) (v0 : Nat) (v1 : Int64), rhF E 9 3 yX12_readLine cX12_readLine none Γ (rhe1U Γ) (f_X12_readLine_24 Γ M v0 v1) 24 [(0, rhR v0), (1, rhJ v1)] [] Γ M := by
  intro M v0 v1
  rw [f_X12_readLine_24]
  refine rhF.aload_n (pc := 24) dX12_readLine_24 0 rfl ?_
  refine rhF.ck (fun h6 => ?_)
  refine rhF.callV (pc := 25) (ci := 12) (embc := rhe0I _ _) [] dX12_readLine_25 ml_X12_294 mv_X12_isGood ⟨_, rfl, rfl⟩ h6 (c_X12_isGood _ _ _ _) (by decide) (by decide) rfl (Nat.le_of_ble_eq_true rfl) (fun r7 _ => ?_)
  refine rhF.if_ne (pc := 28) 32 dX12_readLine_28 (by decide) (fun h8 => ?_) (fun h8 => ?_)
  · exact rhF.vret (pc := 31) dX12_readLine_31 rfl rfl
  · refine rhF.aload_n (pc := 32) dX12_readLine_32 0 rfl ?_
    refine rhF.callV (pc := 33) (ci := 12) (embc := rhe1U _) [] dX12_readLine_33 ml_X12_298 mv_X12_goOn ⟨_, rfl, rfl⟩ h6 (c_X12_goOn _ _ _ _) (by decide) (by decide) rfl (Nat.le_of_ble_eq_true rfl) (fun r9 _ => ?_)
    refine rhF.lload_n (pc := 36) dX12_readLine_36 1 rfl ?_
    refine rhF.ldc2 (pc := 37) dX12_readLine_37 k_X12_220 ?_
    refine rhF.lcne (pc := 40) 48 dX12_readLine_40 dX12_readLine_41 (by decide) (fun h10 => ?_) (fun h10 => ?_)
    · refine rhF.aload_n (pc := 44) dX12_readLine_44 0 rfl ?_
      refine rhF.callV (pc := 45) (ci := 12) (embc := rhe1U _) [] dX12_readLine_45 ml_X12_348 mv_X12_readRail ⟨_, rfl, rfl⟩ h6 (c_X12_readRail _ _ _ _) (by decide) (by decide) rfl (Nat.le_of_ble_eq_true rfl) (fun r11 _ => ?_)
      exact (b_X12_readLine_48) _ _ _
    · exact (b_X12_readLine_48) _ _ _
set_option maxHeartbeats 4000000 in
set_option maxRecDepth 100000 in
theorem b_X12_readLine_20 {E : rhE} {Γ : rhG} {k24 : rhM → Nat → Int64 → Option (rhM)} (hk24 : ∀ (M : rhM) (v0 : Nat) (v1 : Int64), rhF E 9 3 yX12_readLine cX12_readLine none Γ (rhe1U Γ) (k24 M v0 v1) 24 [(0, rhR v0), (1, rhJ v1)] [] Γ M) : ∀ (M : rhM) (v0 : Nat) (v1 : Int64), rhF E 9 3 yX12_readLine cX12_readLine none Γ (rhe1U Γ) (f_X12_readLine_20 k24 Γ M v0 v1) 20 [(0, rhR v0), (1, rhJ v1)] [] Γ M := by
  intro M v0 v1
  rw [f_X12_readLine_20]
  refine rhF.aload_n (pc := 20) dX12_readLine_20 0 rfl ?_
  refine rhF.ck (fun h48 => ?_)
  refine rhF.callV (pc := 21) (ci := 12) (embc := rhe1U _) [] dX12_readLine_21 ml_X12_301 mv_X12_misplaced ⟨_, rfl, rfl⟩ h48 (c_X12_misplaced _ _ _ _) (by decide) (by decide) rfl (Nat.le_of_ble_eq_true rfl) (fun r49 _ => ?_)
  exact hk24 _ _ _
set_option maxHeartbeats 4000000 in
set_option maxRecDepth 100000 in
theorem b_X12_readLine {E : rhE} {Γ : rhG} : ∀ (M : rhM) (v0 : Nat), rhF E 9 3 yX12_readLine cX12_readLine none Γ (rhe1U Γ) (f_X12_readLine Γ M v0) 0 [(0, rhR v0)] [] Γ M := by
  intro M v0
  rw [f_X12_readLine]
  refine rhF.aload_n (pc := 0) dX12_readLine_0 0 rfl ?_
  refine rhF.ck (fun h1 => ?_)
  refine rhF.get (pc := 1) (rhJ _) dX12_readLine_1 fl_X12_273 h1 rfl ?_
  refine rhF.lstore_n (pc := 4) (L' := [(1, rhJ _), (0, rhR _)]) dX12_readLine_4 (by decide) rfl ?_
  refine rhF.aload_n (pc := 5) dX12_readLine_5 1 rfl ?_
  refine rhF.get (pc := 6) (rhI _) dX12_readLine_6 fl_X12_266 h1 rfl ?_
  refine rhF.iconst (pc := 9) (v := 3) dX12_readLine_9 (by decide) ?_
  refine rhF.icmp_ne (pc := 10) 20 dX12_readLine_10 (by decide) (fun h3 => ?_) (fun h3 => ?_)
  · refine rhF.aload_n (pc := 13) dX12_readLine_13 1 rfl ?_
    refine rhF.callV (pc := 14) (ci := 12) (embc := rhe0I _ _) [] dX12_readLine_14 ml_X12_345 mv_X12_isFull ⟨_, rfl, rfl⟩ h1 (c_X12_isFull _ _ _ _) (by decide) (by decide) rfl (Nat.le_of_ble_eq_true rfl) (fun r4 _ => ?_)
    refine rhF.if_eq (pc := 17) 24 dX12_readLine_17 (by decide) (fun h5 => ?_) (fun h5 => ?_)
    · refine rhF.sub [1, 0] rfl ?_
      exact (b_X12_readLine_24) _ _ _
    · refine rhF.sub [1, 0] rfl ?_
      exact (b_X12_readLine_20 (b_X12_readLine_24)) _ _ _
  · refine rhF.sub [1, 0] rfl ?_
    exact (b_X12_readLine_20 (b_X12_readLine_24)) _ _ _
theorem c_X12_readLine (E : rhE) (Γ : rhG) (M : rhM) (v0 : Nat) : ∀ a, f_X12_readLine Γ M v0 = some a → rhC E 9 yX12_readLine cX12_readLine 3 none [rhR v0] Γ M ((rhe1U Γ) a) := rhF.met (by decide +kernel) (Nat.le_of_ble_eq_true rfl) (b_X12_readLine M v0)
def f_X12_town_20 (k46 : rhM → Nat → Option (Int32 × rhM)) (Γ : rhG) : Nat → rhM → Nat → Int32 → Option (Int32 × rhM)
  | 0, _, _, _ => none
  | n + 1, M, v0, v1 =>
    rhck (Γ.2.2.1 v0 = 13) <|
    if v1 < (M.1 v0 3) then
      (rhck (Γ.2.2.1 (M.2.2 v0 0) = 14) <|
      rhck (0 ≤ (v1).toInt ∧ (v1).toInt < (Γ.2.2.2 (M.2.2 v0 0) : Nat)) <|
      rhck (Γ.2.2.1 (M.2.2 v0 1) = 14) <|
      rhck (0 ≤ (v1).toInt ∧ (v1).toInt < (Γ.2.2.2 (M.2.2 v0 1) : Nat)) <|
      let M11 := rhsi M (M.2.2 v0 1) (v1 : Int32).toNatClampNeg (vp_nar .byte (M.1 (M.2.2 v0 0) v1.toNatClampNeg))
      let x12 : Int32 := v1 + 1
      f_X12_town_20 k46 Γ n M11 v0 x12)
    else
      k46 M v0
def f_X12_town_74 (k95 : rhM → Nat → Option (Int32 × rhM)) (Γ : rhG) : Nat → rhM → Nat → Option (Int32 × rhM)
  | 0, _, _ => none
  | n + 1, M, v0 =>
    rhck (Γ.2.2.1 v0 = 13) <|
    (f_X12_isGood Γ M v0).bind fun r20 =>
    if r20 = 0 then
      (k95 M v0)
    else
      if (M.1 v0 8) = 0 then
        (k95 M v0)
      else
        (f_X12_readLine Γ M v0).bind fun r23 =>
        f_X12_town_74 k95 Γ n r23 v0
def f_X12_town_138 (Γ : rhG) : Nat → rhM → Nat → Int32 → Option (Int32 × rhM)
  | 0, _, _, _ => none
  | n + 1, M, v0, v1 =>
    if v1 < 3 then
      (rhck (Γ.2.2.1 v0 = 13) <|
      rhck (Γ.2.2.1 (M.2.2 v0 84) = 15) <|
      rhck (0 ≤ (v1).toInt ∧ (v1).toInt < (Γ.2.2.2 (M.2.2 v0 84) : Nat)) <|
      let M37 := rhsi M (M.2.2 v0 84) (v1 : Int32).toNatClampNeg ((-1))
      let x38 : Int32 := v1 + 1
      f_X12_town_138 Γ n M37 v0 x38)
    else
      rhck (Γ.2.2.1 v0 = 13) <|
      rhck (Γ.2.2.1 (M.2.2 v0 12) = 15) <|
      rhck (0 ≤ (M.1 v0 34).toInt ∧ (M.1 v0 34).toInt < (Γ.2.2.2 (M.2.2 v0 12) : Nat)) <|
      some ((M.1 (M.2.2 v0 12) (M.1 v0 34).toNatClampNeg, M))
def f_X12_town_95 (Γ : rhG) (M : rhM) (v0 : Nat) : Option (Int32 × rhM) :=
  rhck (Γ.2.2.1 v0 = 13) <|
  (f_X12_isGood Γ M v0).bind fun r25 =>
  if r25 = 0 then
    (some (((-1), M)))
  else
    let M27 := rhsi M v0 34 (M.1 v0 35)
    (f_X12_begin Γ M27 v0).bind fun r28 =>
    let M29 := rhsi r28 v0 82 0
    let M30 := rhsi M29 v0 51 0
    let M31 := rhsi M30 v0 53 0
    let M32 := rhsi M31 v0 66 0
    f_X12_town_138 Γ rhFU M32 v0 0
def f_X12_town_46 (Γ : rhG) (M : rhM) (v0 : Nat) : Option (Int32 × rhM) :=
  rhck (Γ.2.2.1 v0 = 13) <|
  let M14 := rhsi M v0 2 0
  let M15 := rhsi M14 v0 7 0
  let M16 := rhsi M15 v0 35 (1 - (M15.1 v0 34))
  (f_X12_clearBank Γ M16 v0).bind fun r17 =>
  (f_X12_goOn Γ r17 v0).bind fun r18 =>
  f_X12_town_74 (f_X12_town_95 Γ) Γ rhFU r18 v0
def f_X12_town (Γ : rhG) (M : rhM) (v0 : Nat) : Option (Int32 × rhM) :=
  rhck (Γ.2.2.1 v0 = 13) <|
  let M2 := rhsi M v0 4 0
  let M3 := rhsi M2 v0 5 ((-1))
  let M4 := rhsi M3 v0 3 (M3.1 v0 2)
  f_X12_town_20 (f_X12_town_46 Γ) Γ rhFU M4 v0 0
set_option maxHeartbeats 4000000 in
set_option maxRecDepth 100000 in
theorem b_X12_town_20 {E : rhE} {Γ : rhG} {k46 : rhM → Nat → Option (Int32 × rhM)} (hk46 : ∀ (M : rhM) (v0 : Nat), rhF E 10 2 yX12_town cX12_town (some .int) Γ (rhe1I Γ) (k46 M v0) 46 [(0, rhR v0)] [] Γ M) : ∀ (n : Nat) (M : rhM) (v0 : Nat) (v1 : Int32), rhF E 10 2 yX12_town cX12_town (some .int) Γ (rhe1I Γ) (f_X12_town_20 k46 Γ n M v0 v1) 20 [(0, rhR v0), (1, rhI v1)] [] Γ M := by
  intro n
  induction n with
  | zero => intro M v0 v1; rw [f_X12_town_20]; exact rhF.nope
  | succ n ih =>
    intro M v0 v1
    rw [f_X12_town_20]
    refine rhF.iload_n (pc := 20) dX12_town_20 1 rfl ?_
    refine rhF.aload_n (pc := 21) dX12_town_21 0 rfl ?_
    refine rhF.ck (fun h5 => ?_)
    refine rhF.get (pc := 22) (rhI _) dX12_town_22 fl_X12_214 h5 rfl ?_
    refine rhF.icmp_ge (pc := 25) 46 dX12_town_25 (by decide) (fun h6 => ?_) (fun h6 => ?_)
    · refine rhF.aload_n (pc := 28) dX12_town_28 0 rfl ?_
      refine rhF.get (pc := 29) (rhR _) dX12_town_29 fl_X12_13 h5 rfl ?_
      refine rhF.iload_n (pc := 32) dX12_town_32 1 rfl ?_
      refine rhF.aload_n (pc := 33) dX12_town_33 0 rfl ?_
      refine rhF.get (pc := 34) (rhR _) dX12_town_34 fl_X12_7 h5 rfl ?_
      refine rhF.iload_n (pc := 37) dX12_town_37 1 rfl ?_
      refine rhF.ck (fun h7 => ?_)
      refine rhF.ck (fun h8 => ?_)
      refine rhF.bald (pc := 38) dX12_town_38 h7 h8 ?_
      refine rhF.ck (fun h9 => ?_)
      refine rhF.ck (fun h10 => ?_)
      refine rhF.bast (pc := 39) dX12_town_39 h9 h10 ?_
      refine rhF.iinc (pc := 40) (L' := [(1, rhI _), (0, rhR _)]) dX12_town_40 1 rfl rfl (by decide) rfl ?_
      refine rhF.goto (pc := 43) 20 dX12_town_43 (by decide) ?_
      refine rhF.sub [1, 0] rfl ?_
      exact ih _ _ _
    · refine rhF.sub [0] rfl ?_
      exact hk46 _ _
set_option maxHeartbeats 4000000 in
set_option maxRecDepth 100000 in
theorem b_X12_town_74 {E : rhE} {Γ : rhG} {k95 : rhM → Nat → Option (Int32 × rhM)} (hk95 : ∀ (M : rhM) (v0 : Nat), rhF E 10 2 yX12_town cX12_town (some .int) Γ (rhe1I Γ) (k95 M v0) 95 [(0, rhR v0)] [] Γ M) : ∀ (n : Nat) (M : rhM) (v0 : Nat), rhF E 10 2 yX12_town cX12_town (some .int) Γ (rhe1I Γ) (f_X12_town_74 k95 Γ n M v0) 74 [(0, rhR v0)] [] Γ M := by
  intro n
  induction n with
  | zero => intro M v0; rw [f_X12_town_74]; exact rhF.nope
  | succ n ih =>
    intro M v0
    rw [f_X12_town_74]
    refine rhF.aload_n (pc := 74) dX12_town_74 0 rfl ?_
    refine rhF.ck (fun h19 => ?_)
    refine rhF.callV (pc := 75) (ci := 12) (embc := rhe0I _ _) [] dX12_town_75 ml_X12_294 mv_X12_isGood ⟨_, rfl, rfl⟩ h19 (c_X12_isGood _ _ _ _) (by decide) (by decide) rfl (Nat.le_of_ble_eq_true rfl) (fun r20 _ => ?_)
    refine rhF.if_eq (pc := 78) 95 dX12_town_78 (by decide) (fun h21 => ?_) (fun h21 => ?_)
    · exact hk95 _ _
    · refine rhF.aload_n (pc := 81) dX12_town_81 0 rfl ?_
      refine rhF.get (pc := 82) (rhI _) dX12_town_82 fl_X12_266 h19 rfl ?_
      refine rhF.if_eq (pc := 85) 95 dX12_town_85 (by decide) (fun h22 => ?_) (fun h22 => ?_)
      · exact hk95 _ _
      · refine rhF.aload_n (pc := 88) dX12_town_88 0 rfl ?_
        refine rhF.callV (pc := 89) (ci := 12) (embc := rhe1U _) [] dX12_town_89 ml_X12_330 mv_X12_readLine ⟨_, rfl, rfl⟩ h19 (c_X12_readLine _ _ _ _) (by decide) (by decide) rfl (Nat.le_of_ble_eq_true rfl) (fun r23 _ => ?_)
        refine rhF.goto (pc := 92) 74 dX12_town_92 (by decide) ?_
        exact ih _ _
set_option maxHeartbeats 4000000 in
set_option maxRecDepth 100000 in
theorem b_X12_town_138 {E : rhE} {Γ : rhG} : ∀ (n : Nat) (M : rhM) (v0 : Nat) (v1 : Int32), rhF E 10 2 yX12_town cX12_town (some .int) Γ (rhe1I Γ) (f_X12_town_138 Γ n M v0 v1) 138 [(0, rhR v0), (1, rhI v1)] [] Γ M := by
  intro n
  induction n with
  | zero => intro M v0 v1; rw [f_X12_town_138]; exact rhF.nope
  | succ n ih =>
    intro M v0 v1
    rw [f_X12_town_138]
    refine rhF.iload_n (pc := 138) dX12_town_138 1 rfl ?_
    refine rhF.iconst (pc := 139) (v := 3) dX12_town_139 (by decide) ?_
    refine rhF.icmp_ge (pc := 140) 156 dX12_town_140 (by decide) (fun h33 => ?_) (fun h33 => ?_)
    · refine rhF.aload_n (pc := 143) dX12_town_143 0 rfl ?_
      refine rhF.ck (fun h34 => ?_)
      refine rhF.get (pc := 144) (rhR _) dX12_town_144 fl_X12_190 h34 rfl ?_
      refine rhF.iload_n (pc := 147) dX12_town_147 1 rfl ?_
      refine rhF.iconst (pc := 148) (v := (-1)) dX12_town_148 (by decide) ?_
      refine rhF.ck (fun h35 => ?_)
      refine rhF.ck (fun h36 => ?_)
      refine rhF.iast (pc := 149) dX12_town_149 h35 h36 ?_
      refine rhF.iinc (pc := 150) (L' := [(1, rhI _), (0, rhR _)]) dX12_town_150 1 rfl rfl (by decide) rfl ?_
      refine rhF.goto (pc := 153) 138 dX12_town_153 (by decide) ?_
      refine rhF.sub [1, 0] rfl ?_
      exact ih _ _ _
    · refine rhF.aload_n (pc := 156) dX12_town_156 0 rfl ?_
      refine rhF.ck (fun h39 => ?_)
      refine rhF.get (pc := 157) (rhR _) dX12_town_157 fl_X12_24 h39 rfl ?_
      refine rhF.aload_n (pc := 160) dX12_town_160 0 rfl ?_
      refine rhF.get (pc := 161) (rhI _) dX12_town_161 fl_X12_327 h39 rfl ?_
      refine rhF.ck (fun h40 => ?_)
      refine rhF.ck (fun h41 => ?_)
      refine rhF.iald (pc := 164) dX12_town_164 h40 h41 ?_
      exact rhF.zret (pc := 165) dX12_town_165 rfl rfl rfl
set_option maxHeartbeats 4000000 in
set_option maxRecDepth 100000 in
theorem b_X12_town_95 {E : rhE} {Γ : rhG} : ∀ (M : rhM) (v0 : Nat), rhF E 10 2 yX12_town cX12_town (some .int) Γ (rhe1I Γ) (f_X12_town_95 Γ M v0) 95 [(0, rhR v0)] [] Γ M := by
  intro M v0
  rw [f_X12_town_95]
  refine rhF.aload_n (pc := 95) dX12_town_95 0 rfl ?_
  refine rhF.ck (fun h24 => ?_)
  refine rhF.callV (pc := 96) (ci := 12) (embc := rhe0I _ _) [] dX12_town_96 ml_X12_294 mv_X12_isGood ⟨_, rfl, rfl⟩ h24 (c_X12_isGood _ _ _ _) (by decide) (by decide) rfl (Nat.le_of_ble_eq_true rfl) (fun r25 _ => ?_)
  refine rhF.if_ne (pc := 99) 104 dX12_town_99 (by decide) (fun h26 => ?_) (fun h26 => ?_)
  · refine rhF.iconst (pc := 102) (v := (-1)) dX12_town_102 (by decide) ?_
    exact rhF.zret (pc := 103) dX12_town_103 rfl rfl rfl
  · refine rhF.aload_n (pc := 104) dX12_town_104 0 rfl ?_
    refine rhF.aload_n (pc := 105) dX12_town_105 0 rfl ?_
    refine rhF.get (pc := 106) (rhI _) dX12_town_106 fl_X12_318 h24 rfl ?_
    refine rhF.puti (pc := 109) dX12_town_109 fl_X12_327 h24 (fun q hq => by cases hq; exact Or.inl rfl) ⟨rfl, rfl⟩ (fun _ => rfl) ?_
    refine rhF.aload_n (pc := 112) dX12_town_112 0 rfl ?_
    refine rhF.callV (pc := 113) (ci := 12) (embc := rhe1U _) [] dX12_town_113 ml_X12_211 mv_X12_begin ⟨_, rfl, rfl⟩ h24 (c_X12_begin _ _ _ _) (by decide) (by decide) rfl (Nat.le_of_ble_eq_true rfl) (fun r28 _ => ?_)
    refine rhF.aload_n (pc := 116) dX12_town_116 0 rfl ?_
    refine rhF.iconst (pc := 117) (v := 0) dX12_town_117 (by decide) ?_
    refine rhF.puti (pc := 118) dX12_town_118 fl_X12_333 h24 (fun q hq => by cases hq; exact Or.inl rfl) ⟨rfl, rfl⟩ (fun _ => rfl) ?_
    refine rhF.aload_n (pc := 121) dX12_town_121 0 rfl ?_
    refine rhF.iconst (pc := 122) (v := 0) dX12_town_122 (by decide) ?_
    refine rhF.puti (pc := 123) dX12_town_123 fl_X12_336 h24 (fun q hq => by cases hq; exact Or.inl rfl) ⟨rfl, rfl⟩ (fun _ => rfl) ?_
    refine rhF.aload_n (pc := 126) dX12_town_126 0 rfl ?_
    refine rhF.iconst (pc := 127) (v := 0) dX12_town_127 (by decide) ?_
    refine rhF.puti (pc := 128) dX12_town_128 fl_X12_339 h24 (fun q hq => by cases hq; exact Or.inl rfl) ⟨rfl, rfl⟩ (fun _ => rfl) ?_
    refine rhF.aload_n (pc := 131) dX12_town_131 0 rfl ?_
    refine rhF.iconst (pc := 132) (v := 0) dX12_town_132 (by decide) ?_
    refine rhF.puti (pc := 133) dX12_town_133 fl_X12_342 h24 (fun q hq => by cases hq; exact Or.inl rfl) ⟨rfl, rfl⟩ (fun _ => rfl) ?_
    refine rhF.iconst (pc := 136) (v := 0) dX12_town_136 (by decide) ?_
    refine rhF.istore_n (pc := 137) (L' := [(1, rhI _), (0, rhR _)]) dX12_town_137 (by decide) rfl ?_
    refine rhF.sub [1, 0] rfl ?_
    exact (b_X12_town_138 rhFU) _ _ _
set_option maxHeartbeats 4000000 in
set_option maxRecDepth 100000 in
theorem b_X12_town_46 {E : rhE} {Γ : rhG} : ∀ (M : rhM) (v0 : Nat), rhF E 10 2 yX12_town cX12_town (some .int) Γ (rhe1I Γ) (f_X12_town_46 Γ M v0) 46 [(0, rhR v0)] [] Γ M := by
  intro M v0
  rw [f_X12_town_46]
  refine rhF.aload_n (pc := 46) dX12_town_46 0 rfl ?_
  refine rhF.iconst (pc := 47) (v := 0) dX12_town_47 (by decide) ?_
  refine rhF.ck (fun h13 => ?_)
  refine rhF.puti (pc := 48) dX12_town_48 fl_X12_324 h13 (fun q hq => by cases hq; exact Or.inl rfl) ⟨rfl, rfl⟩ (fun _ => rfl) ?_
  refine rhF.aload_n (pc := 51) dX12_town_51 0 rfl ?_
  refine rhF.iconst (pc := 52) (v := 0) dX12_town_52 (by decide) ?_
  refine rhF.puti (pc := 53) dX12_town_53 fl_X12_256 h13 (fun q hq => by cases hq; exact Or.inl rfl) ⟨rfl, rfl⟩ (fun _ => rfl) ?_
  refine rhF.aload_n (pc := 56) dX12_town_56 0 rfl ?_
  refine rhF.iconst (pc := 57) (v := 1) dX12_town_57 (by decide) ?_
  refine rhF.aload_n (pc := 58) dX12_town_58 0 rfl ?_
  refine rhF.get (pc := 59) (rhI _) dX12_town_59 fl_X12_327 h13 rfl ?_
  refine rhF.isub (pc := 62) dX12_town_62 ?_
  refine rhF.puti (pc := 63) dX12_town_63 fl_X12_318 h13 (fun q hq => by cases hq; exact Or.inl rfl) ⟨rfl, rfl⟩ (fun _ => rfl) ?_
  refine rhF.aload_n (pc := 66) dX12_town_66 0 rfl ?_
  refine rhF.callV (pc := 67) (ci := 12) (embc := rhe1U _) [] dX12_town_67 ml_X12_208 mv_X12_clearBank ⟨_, rfl, rfl⟩ h13 (c_X12_clearBank _ _ _ _) (by decide) (by decide) rfl (Nat.le_of_ble_eq_true rfl) (fun r17 _ => ?_)
  refine rhF.aload_n (pc := 70) dX12_town_70 0 rfl ?_
  refine rhF.callV (pc := 71) (ci := 12) (embc := rhe1U _) [] dX12_town_71 ml_X12_298 mv_X12_goOn ⟨_, rfl, rfl⟩ h13 (c_X12_goOn _ _ _ _) (by decide) (by decide) rfl (Nat.le_of_ble_eq_true rfl) (fun r18 _ => ?_)
  exact (b_X12_town_74 (b_X12_town_95) rhFU) _ _
set_option maxHeartbeats 4000000 in
set_option maxRecDepth 100000 in
theorem b_X12_town {E : rhE} {Γ : rhG} : ∀ (M : rhM) (v0 : Nat), rhF E 10 2 yX12_town cX12_town (some .int) Γ (rhe1I Γ) (f_X12_town Γ M v0) 0 [(0, rhR v0)] [] Γ M := by
  intro M v0
  rw [f_X12_town]
  refine rhF.aload_n (pc := 0) dX12_town_0 0 rfl ?_
  refine rhF.iconst (pc := 1) (v := 0) dX12_town_1 (by decide) ?_
  refine rhF.ck (fun h1 => ?_)
  refine rhF.puti (pc := 2) dX12_town_2 fl_X12_217 h1 (fun q hq => by cases hq; exact Or.inl rfl) ⟨rfl, rfl⟩ (fun _ => rfl) ?_
  refine rhF.aload_n (pc := 5) dX12_town_5 0 rfl ?_
  refine rhF.iconst (pc := 6) (v := (-1)) dX12_town_6 (by decide) ?_
  refine rhF.puti (pc := 7) dX12_town_7 fl_X12_16 h1 (fun q hq => by cases hq; exact Or.inl rfl) ⟨rfl, rfl⟩ (fun _ => rfl) ?_
  refine rhF.aload_n (pc := 10) dX12_town_10 0 rfl ?_
  refine rhF.aload_n (pc := 11) dX12_town_11 0 rfl ?_
  refine rhF.get (pc := 12) (rhI _) dX12_town_12 fl_X12_324 h1 rfl ?_
  refine rhF.puti (pc := 15) dX12_town_15 fl_X12_214 h1 (fun q hq => by cases hq; exact Or.inl rfl) ⟨rfl, rfl⟩ (fun _ => rfl) ?_
  refine rhF.iconst (pc := 18) (v := 0) dX12_town_18 (by decide) ?_
  refine rhF.istore_n (pc := 19) (L' := [(1, rhI _), (0, rhR _)]) dX12_town_19 (by decide) rfl ?_
  refine rhF.sub [1, 0] rfl ?_
  exact (b_X12_town_20 (b_X12_town_46) rhFU) _ _ _
theorem c_X12_town (E : rhE) (Γ : rhG) (M : rhM) (v0 : Nat) : ∀ a, f_X12_town Γ M v0 = some a → rhC E 10 yX12_town cX12_town 2 (some .int) [rhR v0] Γ M ((rhe1I Γ) a) := rhF.met (by decide +kernel) (Nat.le_of_ble_eq_true rfl) (b_X12_town M v0)
def f_X12_isBefore (Γ : rhG) (M : rhM) (v0 : Nat) (v1 : Int32) (v2 : Int32) : Option (Int32) :=
  rhck (Γ.2.2.1 v0 = 13) <|
  rhck (Γ.2.2.1 (M.2.2 v0 57) = 15) <|
  rhck (0 ≤ (v1).toInt ∧ (v1).toInt < (Γ.2.2.2 (M.2.2 v0 57) : Nat)) <|
  rhck (0 ≤ (v2).toInt ∧ (v2).toInt < (Γ.2.2.2 (M.2.2 v0 57) : Nat)) <|
  if (M.1 (M.2.2 v0 57) v1.toNatClampNeg) = (M.1 (M.2.2 v0 57) v2.toNatClampNeg) then
    (rhck (Γ.2.2.1 (M.2.2 v0 56) = 15) <|
    rhck (0 ≤ (v1).toInt ∧ (v1).toInt < (Γ.2.2.2 (M.2.2 v0 56) : Nat)) <|
    rhck (0 ≤ (v2).toInt ∧ (v2).toInt < (Γ.2.2.2 (M.2.2 v0 56) : Nat)) <|
    if (M.1 (M.2.2 v0 56) v1.toNatClampNeg) < (M.1 (M.2.2 v0 56) v2.toNatClampNeg) then
      (some 1)
    else
      some 0)
  else
    if (M.1 (M.2.2 v0 57) v1.toNatClampNeg) < (M.1 (M.2.2 v0 57) v2.toNatClampNeg) then
      (some 1)
    else
      some 0
set_option maxHeartbeats 4000000 in
set_option maxRecDepth 100000 in
theorem b_X12_isBefore {E : rhE} {Γ : rhG} {M : rhM} : ∀ (v0 : Nat) (v1 : Int32) (v2 : Int32), rhF E 1 3 yX12_isBefore cX12_isBefore (some .boolean) Γ (rhe0I Γ M) (f_X12_isBefore Γ M v0 v1 v2) 0 [(0, rhR v0), (1, rhI v1), (2, rhI v2)] [] Γ M := by
  intro v0 v1 v2
  rw [f_X12_isBefore]
  refine rhF.aload_n (pc := 0) dX12_isBefore_0 0 rfl ?_
  refine rhF.ck (fun h1 => ?_)
  refine rhF.get (pc := 1) (rhR _) dX12_isBefore_1 fl_X12_132 h1 rfl ?_
  refine rhF.iload_n (pc := 4) dX12_isBefore_4 1 rfl ?_
  refine rhF.ck (fun h2 => ?_)
  refine rhF.ck (fun h3 => ?_)
  refine rhF.iald (pc := 5) dX12_isBefore_5 h2 h3 ?_
  refine rhF.aload_n (pc := 6) dX12_isBefore_6 0 rfl ?_
  refine rhF.get (pc := 7) (rhR _) dX12_isBefore_7 fl_X12_132 h1 rfl ?_
  refine rhF.iload_n (pc := 10) dX12_isBefore_10 2 rfl ?_
  refine rhF.ck (fun h4 => ?_)
  refine rhF.iald (pc := 11) dX12_isBefore_11 h2 h4 ?_
  refine rhF.icmp_eq (pc := 12) 38 dX12_isBefore_12 (by decide) (fun h5 => ?_) (fun h5 => ?_)
  · refine rhF.aload_n (pc := 38) dX12_isBefore_38 0 rfl ?_
    refine rhF.get (pc := 39) (rhR _) dX12_isBefore_39 fl_X12_129 h1 rfl ?_
    refine rhF.iload_n (pc := 42) dX12_isBefore_42 1 rfl ?_
    refine rhF.ck (fun h6 => ?_)
    refine rhF.ck (fun h7 => ?_)
    refine rhF.iald (pc := 43) dX12_isBefore_43 h6 h7 ?_
    refine rhF.aload_n (pc := 44) dX12_isBefore_44 0 rfl ?_
    refine rhF.get (pc := 45) (rhR _) dX12_isBefore_45 fl_X12_129 h1 rfl ?_
    refine rhF.iload_n (pc := 48) dX12_isBefore_48 2 rfl ?_
    refine rhF.ck (fun h8 => ?_)
    refine rhF.iald (pc := 49) dX12_isBefore_49 h6 h8 ?_
    refine rhF.icmp_ge (pc := 50) 57 dX12_isBefore_50 (by decide) (fun h9 => ?_) (fun h9 => ?_)
    · refine rhF.iconst (pc := 53) (v := 1) dX12_isBefore_53 (by decide) ?_
      refine rhF.goto (pc := 54) 58 dX12_isBefore_54 (by decide) ?_
      exact rhF.zret (pc := 58) dX12_isBefore_58 rfl rfl rfl
    · refine rhF.iconst (pc := 57) (v := 0) dX12_isBefore_57 (by decide) ?_
      exact rhF.zret (pc := 58) dX12_isBefore_58 rfl rfl rfl
  · refine rhF.aload_n (pc := 15) dX12_isBefore_15 0 rfl ?_
    refine rhF.get (pc := 16) (rhR _) dX12_isBefore_16 fl_X12_132 h1 rfl ?_
    refine rhF.iload_n (pc := 19) dX12_isBefore_19 1 rfl ?_
    refine rhF.iald (pc := 20) dX12_isBefore_20 h2 h3 ?_
    refine rhF.aload_n (pc := 21) dX12_isBefore_21 0 rfl ?_
    refine rhF.get (pc := 22) (rhR _) dX12_isBefore_22 fl_X12_132 h1 rfl ?_
    refine rhF.iload_n (pc := 25) dX12_isBefore_25 2 rfl ?_
    refine rhF.iald (pc := 26) dX12_isBefore_26 h2 h4 ?_
    refine rhF.icmp_ge (pc := 27) 34 dX12_isBefore_27 (by decide) (fun h10 => ?_) (fun h10 => ?_)
    · refine rhF.iconst (pc := 30) (v := 1) dX12_isBefore_30 (by decide) ?_
      refine rhF.goto (pc := 31) 58 dX12_isBefore_31 (by decide) ?_
      exact rhF.zret (pc := 58) dX12_isBefore_58 rfl rfl rfl
    · refine rhF.iconst (pc := 34) (v := 0) dX12_isBefore_34 (by decide) ?_
      refine rhF.goto (pc := 35) 58 dX12_isBefore_35 (by decide) ?_
      exact rhF.zret (pc := 58) dX12_isBefore_58 rfl rfl rfl
theorem c_X12_isBefore (E : rhE) (Γ : rhG) (M : rhM) (v0 : Nat) (v1 : Int32) (v2 : Int32) : ∀ a, f_X12_isBefore Γ M v0 v1 v2 = some a → rhC E 1 yX12_isBefore cX12_isBefore 3 (some .boolean) [rhR v0, rhI v1, rhI v2] Γ M ((rhe0I Γ M) a) := rhF.met (by decide +kernel) (Nat.le_of_ble_eq_true rfl) (b_X12_isBefore v0 v1 v2)
def f_X12_put (Γ : rhG) (M : rhM) (v0 : Nat) (v1 : Int32) (v2 : Int32) : Option (rhM) :=
  rhck (Γ.2.2.1 v0 = 13) <|
  rhck (Γ.2.2.1 (M.2.2 v0 67) = 15) <|
  rhck (0 ≤ (v1).toInt ∧ (v1).toInt < (Γ.2.2.2 (M.2.2 v0 67) : Nat)) <|
  let M4 := rhsi M (M.2.2 v0 67) (v1 : Int32).toNatClampNeg v2
  rhck (Γ.2.2.1 (M.2.2 v0 68) = 15) <|
  rhck (0 ≤ (v2).toInt ∧ (v2).toInt < (Γ.2.2.2 (M.2.2 v0 68) : Nat)) <|
  let M7 := rhsi M4 (M.2.2 v0 68) (v2 : Int32).toNatClampNeg v1
  some M7
set_option maxHeartbeats 4000000 in
set_option maxRecDepth 100000 in
theorem b_X12_put {E : rhE} {Γ : rhG} : ∀ (M : rhM) (v0 : Nat) (v1 : Int32) (v2 : Int32), rhF E 1 3 yX12_put cX12_put none Γ (rhe1U Γ) (f_X12_put Γ M v0 v1 v2) 0 [(0, rhR v0), (1, rhI v1), (2, rhI v2)] [] Γ M := by
  intro M v0 v1 v2
  rw [f_X12_put]
  refine rhF.aload_n (pc := 0) dX12_put_0 0 rfl ?_
  refine rhF.ck (fun h1 => ?_)
  refine rhF.get (pc := 1) (rhR _) dX12_put_1 fl_X12_151 h1 rfl ?_
  refine rhF.iload_n (pc := 4) dX12_put_4 1 rfl ?_
  refine rhF.iload_n (pc := 5) dX12_put_5 2 rfl ?_
  refine rhF.ck (fun h2 => ?_)
  refine rhF.ck (fun h3 => ?_)
  refine rhF.iast (pc := 6) dX12_put_6 h2 h3 ?_
  refine rhF.aload_n (pc := 7) dX12_put_7 0 rfl ?_
  refine rhF.get (pc := 8) (rhR _) dX12_put_8 fl_X12_154 h1 rfl ?_
  refine rhF.iload_n (pc := 11) dX12_put_11 2 rfl ?_
  refine rhF.iload_n (pc := 12) dX12_put_12 1 rfl ?_
  refine rhF.ck (fun h5 => ?_)
  refine rhF.ck (fun h6 => ?_)
  refine rhF.iast (pc := 13) dX12_put_13 h5 h6 ?_
  exact rhF.vret (pc := 14) dX12_put_14 rfl rfl
theorem c_X12_put (E : rhE) (Γ : rhG) (M : rhM) (v0 : Nat) (v1 : Int32) (v2 : Int32) : ∀ a, f_X12_put Γ M v0 v1 v2 = some a → rhC E 1 yX12_put cX12_put 3 none [rhR v0, rhI v1, rhI v2] Γ M ((rhe1U Γ) a) := rhF.met (by decide +kernel) (Nat.le_of_ble_eq_true rfl) (b_X12_put M v0 v1 v2)
def f_X12_takeFirst_120 (k121 : rhM → Nat → Int32 → Int32 → Int32 → Int32 → Int32 → Option (Int32 × rhM)) (Γ : rhG) (M : rhM) (v0 : Nat) (v1 : Int32) (v2 : Int32) (v3 : Int32) (v5 : Int32) : Option (Int32 × rhM) :=
  k121 M v0 v1 v2 v3 v5 0
def f_X12_takeFirst_121 (k43 : rhM → Nat → Int32 → Int32 → Int32 → Int32 → Option (Int32 × rhM)) (Γ : rhG) (M : rhM) (v0 : Nat) (v1 : Int32) (v2 : Int32) (v3 : Int32) (v5 : Int32) (s0 : Int32) : Option (Int32 × rhM) :=
  if s0 = 0 then
    (k43 M v0 v1 v2 v3 s0)
  else
    rhck (Γ.2.2.1 v0 = 13) <|
    rhck (Γ.2.2.1 (M.2.2 v0 67) = 15) <|
    rhck (0 ≤ (v5).toInt ∧ (v5).toInt < (Γ.2.2.2 (M.2.2 v0 67) : Nat)) <|
    (f_X12_put Γ M v0 v3 (M.1 (M.2.2 v0 67) v5.toNatClampNeg)).bind fun r28 =>
    k43 r28 v0 v1 v2 v5 s0
def f_X12_takeFirst_92 (k43 : rhM → Nat → Int32 → Int32 → Int32 → Int32 → Option (Int32 × rhM)) (Γ : rhG) (M : rhM) (v0 : Nat) (v1 : Int32) (v2 : Int32) (v3 : Int32) (v5 : Int32) : Option (Int32 × rhM) :=
  rhck (Γ.2.2.1 v0 = 13) <|
  if v5 < (M.1 v0 70) then
    (rhck (Γ.2.2.1 (M.2.2 v0 67) = 15) <|
    rhck (0 ≤ (v5).toInt ∧ (v5).toInt < (Γ.2.2.2 (M.2.2 v0 67) : Nat)) <|
    (f_X12_isBefore Γ M v0 (M.1 (M.2.2 v0 67) v5.toNatClampNeg) v2).bind fun r22 =>
    if r22 = 0 then
      (f_X12_takeFirst_120 (f_X12_takeFirst_121 k43 Γ) Γ M v0 v1 v2 v3 v5)
    else
      f_X12_takeFirst_121 k43 Γ M v0 v1 v2 v3 v5 1)
  else
    f_X12_takeFirst_120 (f_X12_takeFirst_121 k43 Γ) Γ M v0 v1 v2 v3 v5
def f_X12_takeFirst_43 (k149 : rhM → Nat → Int32 → Int32 → Int32 → Option (Int32 × rhM)) (Γ : rhG) : Nat → rhM → Nat → Int32 → Int32 → Int32 → Int32 → Option (Int32 × rhM)
  | 0, _, _, _, _, _, _ => none
  | n + 1, M, v0, v1, v2, v3, v4 =>
    if v4 = 0 then
      (k149 M v0 v1 v2 v3)
    else
      let x10 := (2 * v3) + 1
      rhck (Γ.2.2.1 v0 = 13) <|
      if (x10 + 1) < (M.1 v0 70) then
        (rhck (Γ.2.2.1 (M.2.2 v0 67) = 15) <|
        rhck (0 ≤ (x10 + 1).toInt ∧ (x10 + 1).toInt < (Γ.2.2.2 (M.2.2 v0 67) : Nat)) <|
        rhck (0 ≤ (x10).toInt ∧ (x10).toInt < (Γ.2.2.2 (M.2.2 v0 67) : Nat)) <|
        (f_X12_isBefore Γ M v0 (M.1 (M.2.2 v0 67) (x10 + 1).toNatClampNeg) (M.1 (M.2.2 v0 67) x10.toNatClampNeg)).bind fun r16 =>
        if r16 = 0 then
          (f_X12_takeFirst_92 (f_X12_takeFirst_43 k149 Γ n) Γ M v0 v1 v2 v3 x10)
        else
          let x29 : Int32 := x10 + 1
          f_X12_takeFirst_92 (f_X12_takeFirst_43 k149 Γ n) Γ M v0 v1 v2 v3 x29)
      else
        f_X12_takeFirst_92 (f_X12_takeFirst_43 k149 Γ n) Γ M v0 v1 v2 v3 x10
def f_X12_takeFirst_162 (Γ : rhG) (M : rhM) (v0 : Nat) (v1 : Int32) : Option (Int32 × rhM) :=
  rhck (Γ.2.2.1 v0 = 13) <|
  rhck (Γ.2.2.1 (M.2.2 v0 68) = 15) <|
  rhck (0 ≤ (v1).toInt ∧ (v1).toInt < (Γ.2.2.2 (M.2.2 v0 68) : Nat)) <|
  let M36 := rhsi M (M.2.2 v0 68) (v1 : Int32).toNatClampNeg ((-1))
  some ((v1, M36))
def f_X12_takeFirst_149 (Γ : rhG) (M : rhM) (v0 : Nat) (v1 : Int32) (v2 : Int32) (v3 : Int32) : Option (Int32 × rhM) :=
  rhck (Γ.2.2.1 v0 = 13) <|
  if 0 < (M.1 v0 70) then
    ((f_X12_put Γ M v0 v3 v2).bind fun r32 =>
    f_X12_takeFirst_162 Γ r32 v0 v1)
  else
    f_X12_takeFirst_162 Γ M v0 v1
def f_X12_takeFirst_41 (Γ : rhG) (M : rhM) (v0 : Nat) (v1 : Int32) (v2 : Int32) (v3 : Int32) (s0 : Int32) : Option (Int32 × rhM) :=
  f_X12_takeFirst_43 (f_X12_takeFirst_149 Γ) Γ rhFU M v0 v1 v2 v3 s0
def f_X12_takeFirst (Γ : rhG) (M : rhM) (v0 : Nat) : Option (Int32 × rhM) :=
  rhck (Γ.2.2.1 v0 = 13) <|
  rhck (Γ.2.2.1 (M.2.2 v0 67) = 15) <|
  rhck (0 ≤ (0 : Int32).toInt ∧ (0 : Int32).toInt < (Γ.2.2.2 (M.2.2 v0 67) : Nat)) <|
  let x4 := M.1 (M.2.2 v0 67) (0 : Int32).toNatClampNeg
  let M5 := rhsi M v0 70 ((M.1 v0 70) - 1)
  rhck (0 ≤ (M5.1 v0 70).toInt ∧ (M5.1 v0 70).toInt < (Γ.2.2.2 (M.2.2 v0 67) : Nat)) <|
  let x7 := M5.1 (M.2.2 v0 67) (M5.1 v0 70).toNatClampNeg
  if 0 < (M5.1 v0 70) then
    (f_X12_takeFirst_41 Γ M5 v0 x4 x7 0 1)
  else
    f_X12_takeFirst_41 Γ M5 v0 x4 x7 0 0
set_option maxHeartbeats 4000000 in
set_option maxRecDepth 100000 in
theorem b_X12_takeFirst_120 {E : rhE} {Γ : rhG} {k121 : rhM → Nat → Int32 → Int32 → Int32 → Int32 → Int32 → Option (Int32 × rhM)} (hk121 : ∀ (M : rhM) (v0 : Nat) (v1 : Int32) (v2 : Int32) (v3 : Int32) (v5 : Int32) (s0 : Int32), rhF E 5 6 yX12_takeFirst cX12_takeFirst (some .int) Γ (rhe1I Γ) (k121 M v0 v1 v2 v3 v5 s0) 121 [(0, rhR v0), (1, rhI v1), (2, rhI v2), (3, rhI v3), (5, rhI v5)] [rhI s0] Γ M) : ∀ (M : rhM) (v0 : Nat) (v1 : Int32) (v2 : Int32) (v3 : Int32) (v5 : Int32), rhF E 5 6 yX12_takeFirst cX12_takeFirst (some .int) Γ (rhe1I Γ) (f_X12_takeFirst_120 k121 Γ M v0 v1 v2 v3 v5) 120 [(0, rhR v0), (1, rhI v1), (2, rhI v2), (3, rhI v3), (5, rhI v5)] [] Γ M := by
  intro M v0 v1 v2 v3 v5
  rw [f_X12_takeFirst_120]
  refine rhF.iconst (pc := 120) (v := 0) dX12_takeFirst_120 (by decide) ?_
  exact hk121 _ _ _ _ _ _ _
set_option maxHeartbeats 4000000 in
set_option maxRecDepth 100000 in
theorem b_X12_takeFirst_121 {E : rhE} {Γ : rhG} {k43 : rhM → Nat → Int32 → Int32 → Int32 → Int32 → Option (Int32 × rhM)} (hk43 : ∀ (M : rhM) (v0 : Nat) (v1 : Int32) (v2 : Int32) (v3 : Int32) (v4 : Int32), rhF E 5 6 yX12_takeFirst cX12_takeFirst (some .int) Γ (rhe1I Γ) (k43 M v0 v1 v2 v3 v4) 43 [(0, rhR v0), (1, rhI v1), (2, rhI v2), (3, rhI v3), (4, rhI v4)] [] Γ M) : ∀ (M : rhM) (v0 : Nat) (v1 : Int32) (v2 : Int32) (v3 : Int32) (v5 : Int32) (s0 : Int32), rhF E 5 6 yX12_takeFirst cX12_takeFirst (some .int) Γ (rhe1I Γ) (f_X12_takeFirst_121 k43 Γ M v0 v1 v2 v3 v5 s0) 121 [(0, rhR v0), (1, rhI v1), (2, rhI v2), (3, rhI v3), (5, rhI v5)] [rhI s0] Γ M := by
  intro M v0 v1 v2 v3 v5 s0
  rw [f_X12_takeFirst_121]
  refine rhF.istore (pc := 121) (L' := [(4, rhI _), (0, rhR _), (1, rhI _), (2, rhI _), (3, rhI _), (5, rhI _)]) dX12_takeFirst_121 (by decide) rfl ?_
  refine rhF.iload (pc := 123) dX12_takeFirst_123 0 rfl ?_
  refine rhF.if_ne (pc := 125) 131 dX12_takeFirst_125 (by decide) (fun h24 => ?_) (fun h24 => ?_)
  · refine rhF.goto (pc := 128) 43 dX12_takeFirst_128 (by decide) ?_
    refine rhF.sub [1, 2, 3, 4, 0] rfl ?_
    exact hk43 _ _ _ _ _ _
  · refine rhF.aload_n (pc := 131) dX12_takeFirst_131 1 rfl ?_
    refine rhF.iload_n (pc := 132) dX12_takeFirst_132 4 rfl ?_
    refine rhF.aload_n (pc := 133) dX12_takeFirst_133 1 rfl ?_
    refine rhF.ck (fun h25 => ?_)
    refine rhF.get (pc := 134) (rhR _) dX12_takeFirst_134 fl_X12_151 h25 rfl ?_
    refine rhF.iload (pc := 137) dX12_takeFirst_137 5 rfl ?_
    refine rhF.ck (fun h26 => ?_)
    refine rhF.ck (fun h27 => ?_)
    refine rhF.iald (pc := 139) dX12_takeFirst_139 h26 h27 ?_
    refine rhF.callV (pc := 140) (ci := 12) (embc := rhe1U _) [rhI _, rhI _] dX12_takeFirst_140 ml_X12_528 mv_X12_put ⟨_, rfl, rfl⟩ h25 (c_X12_put _ _ _ _ _ _) (by decide) (by decide) rfl (Nat.le_of_ble_eq_true rfl) (fun r28 _ => ?_)
    refine rhF.iload (pc := 143) dX12_takeFirst_143 5 rfl ?_
    refine rhF.istore_n (pc := 145) (L' := [(3, rhI _), (4, rhI _), (0, rhR _), (1, rhI _), (2, rhI _), (5, rhI _)]) dX12_takeFirst_145 (by decide) rfl ?_
    refine rhF.goto (pc := 146) 43 dX12_takeFirst_146 (by decide) ?_
    refine rhF.sub [2, 3, 4, 0, 1] rfl ?_
    exact hk43 _ _ _ _ _ _
set_option maxHeartbeats 4000000 in
set_option maxRecDepth 100000 in
theorem b_X12_takeFirst_92 {E : rhE} {Γ : rhG} {k43 : rhM → Nat → Int32 → Int32 → Int32 → Int32 → Option (Int32 × rhM)} (hk43 : ∀ (M : rhM) (v0 : Nat) (v1 : Int32) (v2 : Int32) (v3 : Int32) (v4 : Int32), rhF E 5 6 yX12_takeFirst cX12_takeFirst (some .int) Γ (rhe1I Γ) (k43 M v0 v1 v2 v3 v4) 43 [(0, rhR v0), (1, rhI v1), (2, rhI v2), (3, rhI v3), (4, rhI v4)] [] Γ M) : ∀ (M : rhM) (v0 : Nat) (v1 : Int32) (v2 : Int32) (v3 : Int32) (v5 : Int32), rhF E 5 6 yX12_takeFirst cX12_takeFirst (some .int) Γ (rhe1I Γ) (f_X12_takeFirst_92 k43 Γ M v0 v1 v2 v3 v5) 92 [(0, rhR v0), (1, rhI v1), (2, rhI v2), (3, rhI v3), (5, rhI v5)] [] Γ M := by
  intro M v0 v1 v2 v3 v5
  rw [f_X12_takeFirst_92]
  refine rhF.iload (pc := 92) dX12_takeFirst_92 4 rfl ?_
  refine rhF.aload_n (pc := 94) dX12_takeFirst_94 0 rfl ?_
  refine rhF.ck (fun h18 => ?_)
  refine rhF.get (pc := 95) (rhI _) dX12_takeFirst_95 fl_X12_531 h18 rfl ?_
  refine rhF.icmp_ge (pc := 98) 120 dX12_takeFirst_98 (by decide) (fun h19 => ?_) (fun h19 => ?_)
  · refine rhF.aload_n (pc := 101) dX12_takeFirst_101 0 rfl ?_
    refine rhF.aload_n (pc := 102) dX12_takeFirst_102 0 rfl ?_
    refine rhF.get (pc := 103) (rhR _) dX12_takeFirst_103 fl_X12_151 h18 rfl ?_
    refine rhF.iload (pc := 106) dX12_takeFirst_106 4 rfl ?_
    refine rhF.ck (fun h20 => ?_)
    refine rhF.ck (fun h21 => ?_)
    refine rhF.iald (pc := 108) dX12_takeFirst_108 h20 h21 ?_
    refine rhF.iload_n (pc := 109) dX12_takeFirst_109 2 rfl ?_
    refine rhF.callV (pc := 110) (ci := 12) (embc := rhe0I _ _) [rhI _, rhI _] dX12_takeFirst_110 ml_X12_524 mv_X12_isBefore ⟨_, rfl, rfl⟩ h18 (c_X12_isBefore _ _ _ _ _ _) (by decide) (by decide) rfl (Nat.le_of_ble_eq_true rfl) (fun r22 _ => ?_)
    refine rhF.if_eq (pc := 113) 120 dX12_takeFirst_113 (by decide) (fun h23 => ?_) (fun h23 => ?_)
    · exact (b_X12_takeFirst_120 (b_X12_takeFirst_121 hk43)) _ _ _ _ _ _
    · refine rhF.iconst (pc := 116) (v := 1) dX12_takeFirst_116 (by decide) ?_
      refine rhF.goto (pc := 117) 121 dX12_takeFirst_117 (by decide) ?_
      exact (b_X12_takeFirst_121 hk43) _ _ _ _ _ _ _
  · exact (b_X12_takeFirst_120 (b_X12_takeFirst_121 hk43)) _ _ _ _ _ _
set_option maxHeartbeats 4000000 in
set_option maxRecDepth 100000 in
theorem b_X12_takeFirst_43 {E : rhE} {Γ : rhG} {k149 : rhM → Nat → Int32 → Int32 → Int32 → Option (Int32 × rhM)} (hk149 : ∀ (M : rhM) (v0 : Nat) (v1 : Int32) (v2 : Int32) (v3 : Int32), rhF E 5 6 yX12_takeFirst cX12_takeFirst (some .int) Γ (rhe1I Γ) (k149 M v0 v1 v2 v3) 149 [(0, rhR v0), (1, rhI v1), (2, rhI v2), (3, rhI v3)] [] Γ M) : ∀ (n : Nat) (M : rhM) (v0 : Nat) (v1 : Int32) (v2 : Int32) (v3 : Int32) (v4 : Int32), rhF E 5 6 yX12_takeFirst cX12_takeFirst (some .int) Γ (rhe1I Γ) (f_X12_takeFirst_43 k149 Γ n M v0 v1 v2 v3 v4) 43 [(0, rhR v0), (1, rhI v1), (2, rhI v2), (3, rhI v3), (4, rhI v4)] [] Γ M := by
  intro n
  induction n with
  | zero => intro M v0 v1 v2 v3 v4; rw [f_X12_takeFirst_43]; exact rhF.nope
  | succ n ih =>
    intro M v0 v1 v2 v3 v4
    rw [f_X12_takeFirst_43]
    refine rhF.iload (pc := 43) dX12_takeFirst_43 4 rfl ?_
    refine rhF.if_eq (pc := 45) 149 dX12_takeFirst_45 (by decide) (fun h9 => ?_) (fun h9 => ?_)
    · refine rhF.sub [0, 1, 2, 3] rfl ?_
      exact hk149 _ _ _ _ _
    · refine rhF.iconst (pc := 48) (v := 2) dX12_takeFirst_48 (by decide) ?_
      refine rhF.iload_n (pc := 49) dX12_takeFirst_49 3 rfl ?_
      refine rhF.imul (pc := 50) dX12_takeFirst_50 ?_
      refine rhF.iconst (pc := 51) (v := 1) dX12_takeFirst_51 (by decide) ?_
      refine rhF.iadd (pc := 52) dX12_takeFirst_52 ?_
      refine rhF.istore (pc := 53) (L' := [(5, rhI _), (0, rhR _), (1, rhI _), (2, rhI _), (3, rhI _), (4, rhI _)]) dX12_takeFirst_53 (by decide) rfl ?_
      refine rhF.iload (pc := 55) dX12_takeFirst_55 0 rfl ?_
      refine rhF.iconst (pc := 57) (v := 1) dX12_takeFirst_57 (by decide) ?_
      refine rhF.iadd (pc := 58) dX12_takeFirst_58 ?_
      refine rhF.aload_n (pc := 59) dX12_takeFirst_59 1 rfl ?_
      refine rhF.ck (fun h11 => ?_)
      refine rhF.get (pc := 60) (rhI _) dX12_takeFirst_60 fl_X12_531 h11 rfl ?_
      refine rhF.icmp_ge (pc := 63) 92 dX12_takeFirst_63 (by decide) (fun h12 => ?_) (fun h12 => ?_)
      · refine rhF.aload_n (pc := 66) dX12_takeFirst_66 1 rfl ?_
        refine rhF.aload_n (pc := 67) dX12_takeFirst_67 1 rfl ?_
        refine rhF.get (pc := 68) (rhR _) dX12_takeFirst_68 fl_X12_151 h11 rfl ?_
        refine rhF.iload (pc := 71) dX12_takeFirst_71 0 rfl ?_
        refine rhF.iconst (pc := 73) (v := 1) dX12_takeFirst_73 (by decide) ?_
        refine rhF.iadd (pc := 74) dX12_takeFirst_74 ?_
        refine rhF.ck (fun h13 => ?_)
        refine rhF.ck (fun h14 => ?_)
        refine rhF.iald (pc := 75) dX12_takeFirst_75 h13 h14 ?_
        refine rhF.aload_n (pc := 76) dX12_takeFirst_76 1 rfl ?_
        refine rhF.get (pc := 77) (rhR _) dX12_takeFirst_77 fl_X12_151 h11 rfl ?_
        refine rhF.iload (pc := 80) dX12_takeFirst_80 0 rfl ?_
        refine rhF.ck (fun h15 => ?_)
        refine rhF.iald (pc := 82) dX12_takeFirst_82 h13 h15 ?_
        refine rhF.callV (pc := 83) (ci := 12) (embc := rhe0I _ _) [rhI _, rhI _] dX12_takeFirst_83 ml_X12_524 mv_X12_isBefore ⟨_, rfl, rfl⟩ h11 (c_X12_isBefore _ _ _ _ _ _) (by decide) (by decide) rfl (Nat.le_of_ble_eq_true rfl) (fun r16 _ => ?_)
        refine rhF.if_eq (pc := 86) 92 dX12_takeFirst_86 (by decide) (fun h17 => ?_) (fun h17 => ?_)
        · refine rhF.sub [1, 2, 3, 4, 0] rfl ?_
          exact (b_X12_takeFirst_92 ih) _ _ _ _ _ _
        · refine rhF.iinc (pc := 89) (L' := [(5, rhI _), (0, rhR _), (1, rhI _), (2, rhI _), (3, rhI _), (4, rhI _)]) dX12_takeFirst_89 0 rfl rfl (by decide) rfl ?_
          refine rhF.sub [1, 2, 3, 4, 0] rfl ?_
          exact (b_X12_takeFirst_92 ih) _ _ _ _ _ _
      · refine rhF.sub [1, 2, 3, 4, 0] rfl ?_
        exact (b_X12_takeFirst_92 ih) _ _ _ _ _ _
set_option maxHeartbeats 4000000 in
set_option maxRecDepth 100000 in
theorem b_X12_takeFirst_162 {E : rhE} {Γ : rhG} : ∀ (M : rhM) (v0 : Nat) (v1 : Int32), rhF E 5 6 yX12_takeFirst cX12_takeFirst (some .int) Γ (rhe1I Γ) (f_X12_takeFirst_162 Γ M v0 v1) 162 [(0, rhR v0), (1, rhI v1)] [] Γ M := by
  intro M v0 v1
  rw [f_X12_takeFirst_162]
  refine rhF.aload_n (pc := 162) dX12_takeFirst_162 0 rfl ?_
  refine rhF.ck (fun h33 => ?_)
  refine rhF.get (pc := 163) (rhR _) dX12_takeFirst_163 fl_X12_154 h33 rfl ?_
  refine rhF.iload_n (pc := 166) dX12_takeFirst_166 1 rfl ?_
  refine rhF.iconst (pc := 167) (v := (-1)) dX12_takeFirst_167 (by decide) ?_
  refine rhF.ck (fun h34 => ?_)
  refine rhF.ck (fun h35 => ?_)
  refine rhF.iast (pc := 168) dX12_takeFirst_168 h34 h35 ?_
  refine rhF.iload_n (pc := 169) dX12_takeFirst_169 1 rfl ?_
  exact rhF.zret (pc := 170) dX12_takeFirst_170 rfl rfl rfl
set_option maxHeartbeats 4000000 in
set_option maxRecDepth 100000 in
theorem b_X12_takeFirst_149 {E : rhE} {Γ : rhG} : ∀ (M : rhM) (v0 : Nat) (v1 : Int32) (v2 : Int32) (v3 : Int32), rhF E 5 6 yX12_takeFirst cX12_takeFirst (some .int) Γ (rhe1I Γ) (f_X12_takeFirst_149 Γ M v0 v1 v2 v3) 149 [(0, rhR v0), (1, rhI v1), (2, rhI v2), (3, rhI v3)] [] Γ M := by
  intro M v0 v1 v2 v3
  rw [f_X12_takeFirst_149]
  refine rhF.aload_n (pc := 149) dX12_takeFirst_149 0 rfl ?_
  refine rhF.ck (fun h30 => ?_)
  refine rhF.get (pc := 150) (rhI _) dX12_takeFirst_150 fl_X12_531 h30 rfl ?_
  refine rhF.if_le (pc := 153) 162 dX12_takeFirst_153 (by decide) (fun h31 => ?_) (fun h31 => ?_)
  · refine rhF.aload_n (pc := 156) dX12_takeFirst_156 0 rfl ?_
    refine rhF.iload_n (pc := 157) dX12_takeFirst_157 3 rfl ?_
    refine rhF.iload_n (pc := 158) dX12_takeFirst_158 2 rfl ?_
    refine rhF.callV (pc := 159) (ci := 12) (embc := rhe1U _) [rhI _, rhI _] dX12_takeFirst_159 ml_X12_528 mv_X12_put ⟨_, rfl, rfl⟩ h30 (c_X12_put _ _ _ _ _ _) (by decide) (by decide) rfl (Nat.le_of_ble_eq_true rfl) (fun r32 _ => ?_)
    refine rhF.sub [0, 1] rfl ?_
    exact (b_X12_takeFirst_162) _ _ _
  · refine rhF.sub [0, 1] rfl ?_
    exact (b_X12_takeFirst_162) _ _ _
set_option maxHeartbeats 4000000 in
set_option maxRecDepth 100000 in
theorem b_X12_takeFirst_41 {E : rhE} {Γ : rhG} : ∀ (M : rhM) (v0 : Nat) (v1 : Int32) (v2 : Int32) (v3 : Int32) (s0 : Int32), rhF E 5 6 yX12_takeFirst cX12_takeFirst (some .int) Γ (rhe1I Γ) (f_X12_takeFirst_41 Γ M v0 v1 v2 v3 s0) 41 [(0, rhR v0), (1, rhI v1), (2, rhI v2), (3, rhI v3)] [rhI s0] Γ M := by
  intro M v0 v1 v2 v3 s0
  rw [f_X12_takeFirst_41]
  refine rhF.istore (pc := 41) (L' := [(4, rhI _), (0, rhR _), (1, rhI _), (2, rhI _), (3, rhI _)]) dX12_takeFirst_41 (by decide) rfl ?_
  refine rhF.sub [1, 2, 3, 4, 0] rfl ?_
  exact (b_X12_takeFirst_43 (b_X12_takeFirst_149) rhFU) _ _ _ _ _ _
set_option maxHeartbeats 4000000 in
set_option maxRecDepth 100000 in
theorem b_X12_takeFirst {E : rhE} {Γ : rhG} : ∀ (M : rhM) (v0 : Nat), rhF E 5 6 yX12_takeFirst cX12_takeFirst (some .int) Γ (rhe1I Γ) (f_X12_takeFirst Γ M v0) 0 [(0, rhR v0)] [] Γ M := by
  intro M v0
  rw [f_X12_takeFirst]
  refine rhF.aload_n (pc := 0) dX12_takeFirst_0 0 rfl ?_
  refine rhF.ck (fun h1 => ?_)
  refine rhF.get (pc := 1) (rhR _) dX12_takeFirst_1 fl_X12_151 h1 rfl ?_
  refine rhF.iconst (pc := 4) (v := 0) dX12_takeFirst_4 (by decide) ?_
  refine rhF.ck (fun h2 => ?_)
  refine rhF.ck (fun h3 => ?_)
  refine rhF.iald (pc := 5) dX12_takeFirst_5 h2 h3 ?_
  refine rhF.istore_n (pc := 6) (L' := [(1, rhI _), (0, rhR _)]) dX12_takeFirst_6 (by decide) rfl ?_
  refine rhF.aload_n (pc := 7) dX12_takeFirst_7 1 rfl ?_
  refine rhF.dupr (pc := 8) dX12_takeFirst_8 ?_
  refine rhF.get (pc := 9) (rhI _) dX12_takeFirst_9 fl_X12_531 h1 rfl ?_
  refine rhF.iconst (pc := 12) (v := 1) dX12_takeFirst_12 (by decide) ?_
  refine rhF.isub (pc := 13) dX12_takeFirst_13 ?_
  refine rhF.puti (pc := 14) dX12_takeFirst_14 fl_X12_531 h1 (fun q hq => by cases hq; exact Or.inl rfl) ⟨rfl, rfl⟩ (fun _ => rfl) ?_
  refine rhF.aload_n (pc := 17) dX12_takeFirst_17 1 rfl ?_
  refine rhF.get (pc := 18) (rhR _) dX12_takeFirst_18 fl_X12_151 h1 rfl ?_
  refine rhF.aload_n (pc := 21) dX12_takeFirst_21 1 rfl ?_
  refine rhF.get (pc := 22) (rhI _) dX12_takeFirst_22 fl_X12_531 h1 rfl ?_
  refine rhF.ck (fun h6 => ?_)
  refine rhF.iald (pc := 25) dX12_takeFirst_25 h2 h6 ?_
  refine rhF.istore_n (pc := 26) (L' := [(2, rhI _), (1, rhI _), (0, rhR _)]) dX12_takeFirst_26 (by decide) rfl ?_
  refine rhF.iconst (pc := 27) (v := 0) dX12_takeFirst_27 (by decide) ?_
  refine rhF.istore_n (pc := 28) (L' := [(3, rhI _), (2, rhI _), (1, rhI _), (0, rhR _)]) dX12_takeFirst_28 (by decide) rfl ?_
  refine rhF.aload_n (pc := 29) dX12_takeFirst_29 3 rfl ?_
  refine rhF.get (pc := 30) (rhI _) dX12_takeFirst_30 fl_X12_531 h1 rfl ?_
  refine rhF.if_le (pc := 33) 40 dX12_takeFirst_33 (by decide) (fun h8 => ?_) (fun h8 => ?_)
  · refine rhF.iconst (pc := 36) (v := 1) dX12_takeFirst_36 (by decide) ?_
    refine rhF.goto (pc := 37) 41 dX12_takeFirst_37 (by decide) ?_
    refine rhF.sub [3, 2, 1, 0] rfl ?_
    exact (b_X12_takeFirst_41) _ _ _ _ _ _
  · refine rhF.iconst (pc := 40) (v := 0) dX12_takeFirst_40 (by decide) ?_
    refine rhF.sub [3, 2, 1, 0] rfl ?_
    exact (b_X12_takeFirst_41) _ _ _ _ _ _
theorem c_X12_takeFirst (E : rhE) (Γ : rhG) (M : rhM) (v0 : Nat) : ∀ a, f_X12_takeFirst Γ M v0 = some a → rhC E 5 yX12_takeFirst cX12_takeFirst 6 (some .int) [rhR v0] Γ M ((rhe1I Γ) a) := rhF.met (by decide +kernel) (Nat.le_of_ble_eq_true rfl) (b_X12_takeFirst M v0)
def f_X12_layTried_2 (k31 : rhM → Nat → Int32 → Option (rhM)) (Γ : rhG) : Nat → rhM → Nat → Int32 → Int32 → Option (rhM)
  | 0, _, _, _, _ => none
  | n + 1, M, v0, v1, v2 =>
    if v2 < 8 then
      (rhck (Γ.2.2.1 v0 = 13) <|
      rhck (Γ.2.2.1 (M.2.2 v0 78) = 15) <|
      rhck (0 ≤ ((8 * v1) + v2).toInt ∧ ((8 * v1) + v2).toInt < (Γ.2.2.2 (M.2.2 v0 78) : Nat)) <|
      rhck (Γ.2.2.1 (M.2.2 v0 39) = 15) <|
      rhck (0 ≤ (v2).toInt ∧ (v2).toInt < (Γ.2.2.2 (M.2.2 v0 39) : Nat)) <|
      let M7 := rhsi M (M.2.2 v0 39) (v2 : Int32).toNatClampNeg (M.1 (M.2.2 v0 78) ((8 * v1) + v2).toNatClampNeg)
      let x8 : Int32 := v2 + 1
      f_X12_layTried_2 k31 Γ n M7 v0 v1 x8)
    else
      k31 M v0 v1
def f_X12_layTried_33 (Γ : rhG) : Nat → rhM → Nat → Int32 → Int32 → Option (rhM)
  | 0, _, _, _, _ => none
  | n + 1, M, v0, v1, v2 =>
    if v2 < 5 then
      (rhck (Γ.2.2.1 v0 = 13) <|
      rhck (Γ.2.2.1 (M.2.2 v0 79) = 15) <|
      rhck (0 ≤ ((6 * v1) + v2).toInt ∧ ((6 * v1) + v2).toInt < (Γ.2.2.2 (M.2.2 v0 79) : Nat)) <|
      rhck (Γ.2.2.1 (M.2.2 v0 40) = 15) <|
      rhck (0 ≤ (v2).toInt ∧ (v2).toInt < (Γ.2.2.2 (M.2.2 v0 40) : Nat)) <|
      let M15 := rhsi M (M.2.2 v0 40) (v2 : Int32).toNatClampNeg (M.1 (M.2.2 v0 79) ((6 * v1) + v2).toNatClampNeg)
      let x16 : Int32 := v2 + 1
      f_X12_layTried_33 Γ n M15 v0 v1 x16)
    else
      some M
def f_X12_layTried_31 (Γ : rhG) (M : rhM) (v0 : Nat) (v1 : Int32) : Option (rhM) :=
  f_X12_layTried_33 Γ rhFU M v0 v1 0
def f_X12_layTried (Γ : rhG) (M : rhM) (v0 : Nat) (v1 : Int32) : Option (rhM) :=
  f_X12_layTried_2 (f_X12_layTried_31 Γ) Γ rhFU M v0 v1 0
set_option maxHeartbeats 4000000 in
set_option maxRecDepth 100000 in
theorem b_X12_layTried_2 {E : rhE} {Γ : rhG} {k31 : rhM → Nat → Int32 → Option (rhM)} (hk31 : ∀ (M : rhM) (v0 : Nat) (v1 : Int32), rhF E 1 3 yX12_layTried cX12_layTried none Γ (rhe1U Γ) (k31 M v0 v1) 31 [(0, rhR v0), (1, rhI v1)] [] Γ M) : ∀ (n : Nat) (M : rhM) (v0 : Nat) (v1 : Int32) (v2 : Int32), rhF E 1 3 yX12_layTried cX12_layTried none Γ (rhe1U Γ) (f_X12_layTried_2 k31 Γ n M v0 v1 v2) 2 [(0, rhR v0), (1, rhI v1), (2, rhI v2)] [] Γ M := by
  intro n
  induction n with
  | zero => intro M v0 v1 v2; rw [f_X12_layTried_2]; exact rhF.nope
  | succ n ih =>
    intro M v0 v1 v2
    rw [f_X12_layTried_2]
    refine rhF.iload_n (pc := 2) dX12_layTried_2 2 rfl ?_
    refine rhF.bipush (pc := 3) (v := 8) dX12_layTried_3 (by decide) ?_
    refine rhF.icmp_ge (pc := 5) 31 dX12_layTried_5 (by decide) (fun h1 => ?_) (fun h1 => ?_)
    · refine rhF.aload_n (pc := 8) dX12_layTried_8 0 rfl ?_
      refine rhF.ck (fun h2 => ?_)
      refine rhF.get (pc := 9) (rhR _) dX12_layTried_9 fl_X12_92 h2 rfl ?_
      refine rhF.iload_n (pc := 12) dX12_layTried_12 2 rfl ?_
      refine rhF.aload_n (pc := 13) dX12_layTried_13 0 rfl ?_
      refine rhF.get (pc := 14) (rhR _) dX12_layTried_14 fl_X12_178 h2 rfl ?_
      refine rhF.bipush (pc := 17) (v := 8) dX12_layTried_17 (by decide) ?_
      refine rhF.iload_n (pc := 19) dX12_layTried_19 1 rfl ?_
      refine rhF.imul (pc := 20) dX12_layTried_20 ?_
      refine rhF.iload_n (pc := 21) dX12_layTried_21 2 rfl ?_
      refine rhF.iadd (pc := 22) dX12_layTried_22 ?_
      refine rhF.ck (fun h3 => ?_)
      refine rhF.ck (fun h4 => ?_)
      refine rhF.iald (pc := 23) dX12_layTried_23 h3 h4 ?_
      refine rhF.ck (fun h5 => ?_)
      refine rhF.ck (fun h6 => ?_)
      refine rhF.iast (pc := 24) dX12_layTried_24 h5 h6 ?_
      refine rhF.iinc (pc := 25) (L' := [(2, rhI _), (0, rhR _), (1, rhI _)]) dX12_layTried_25 2 rfl rfl (by decide) rfl ?_
      refine rhF.goto (pc := 28) 2 dX12_layTried_28 (by decide) ?_
      refine rhF.sub [1, 2, 0] rfl ?_
      exact ih _ _ _ _
    · refine rhF.sub [0, 1] rfl ?_
      exact hk31 _ _ _
set_option maxHeartbeats 4000000 in
set_option maxRecDepth 100000 in
theorem b_X12_layTried_33 {E : rhE} {Γ : rhG} : ∀ (n : Nat) (M : rhM) (v0 : Nat) (v1 : Int32) (v2 : Int32), rhF E 1 3 yX12_layTried cX12_layTried none Γ (rhe1U Γ) (f_X12_layTried_33 Γ n M v0 v1 v2) 33 [(0, rhR v0), (1, rhI v1), (2, rhI v2)] [] Γ M := by
  intro n
  induction n with
  | zero => intro M v0 v1 v2; rw [f_X12_layTried_33]; exact rhF.nope
  | succ n ih =>
    intro M v0 v1 v2
    rw [f_X12_layTried_33]
    refine rhF.iload_n (pc := 33) dX12_layTried_33 2 rfl ?_
    refine rhF.iconst (pc := 34) (v := 5) dX12_layTried_34 (by decide) ?_
    refine rhF.icmp_ge (pc := 35) 61 dX12_layTried_35 (by decide) (fun h9 => ?_) (fun h9 => ?_)
    · refine rhF.aload_n (pc := 38) dX12_layTried_38 0 rfl ?_
      refine rhF.ck (fun h10 => ?_)
      refine rhF.get (pc := 39) (rhR _) dX12_layTried_39 fl_X12_95 h10 rfl ?_
      refine rhF.iload_n (pc := 42) dX12_layTried_42 2 rfl ?_
      refine rhF.aload_n (pc := 43) dX12_layTried_43 0 rfl ?_
      refine rhF.get (pc := 44) (rhR _) dX12_layTried_44 fl_X12_181 h10 rfl ?_
      refine rhF.bipush (pc := 47) (v := 6) dX12_layTried_47 (by decide) ?_
      refine rhF.iload_n (pc := 49) dX12_layTried_49 1 rfl ?_
      refine rhF.imul (pc := 50) dX12_layTried_50 ?_
      refine rhF.iload_n (pc := 51) dX12_layTried_51 2 rfl ?_
      refine rhF.iadd (pc := 52) dX12_layTried_52 ?_
      refine rhF.ck (fun h11 => ?_)
      refine rhF.ck (fun h12 => ?_)
      refine rhF.iald (pc := 53) dX12_layTried_53 h11 h12 ?_
      refine rhF.ck (fun h13 => ?_)
      refine rhF.ck (fun h14 => ?_)
      refine rhF.iast (pc := 54) dX12_layTried_54 h13 h14 ?_
      refine rhF.iinc (pc := 55) (L' := [(2, rhI _), (0, rhR _), (1, rhI _)]) dX12_layTried_55 2 rfl rfl (by decide) rfl ?_
      refine rhF.goto (pc := 58) 33 dX12_layTried_58 (by decide) ?_
      refine rhF.sub [1, 2, 0] rfl ?_
      exact ih _ _ _ _
    · exact rhF.vret (pc := 61) dX12_layTried_61 rfl rfl
set_option maxHeartbeats 4000000 in
set_option maxRecDepth 100000 in
theorem b_X12_layTried_31 {E : rhE} {Γ : rhG} : ∀ (M : rhM) (v0 : Nat) (v1 : Int32), rhF E 1 3 yX12_layTried cX12_layTried none Γ (rhe1U Γ) (f_X12_layTried_31 Γ M v0 v1) 31 [(0, rhR v0), (1, rhI v1)] [] Γ M := by
  intro M v0 v1
  rw [f_X12_layTried_31]
  refine rhF.iconst (pc := 31) (v := 0) dX12_layTried_31 (by decide) ?_
  refine rhF.istore_n (pc := 32) (L' := [(2, rhI _), (0, rhR _), (1, rhI _)]) dX12_layTried_32 (by decide) rfl ?_
  refine rhF.sub [1, 2, 0] rfl ?_
  exact (b_X12_layTried_33 rhFU) _ _ _ _
set_option maxHeartbeats 4000000 in
set_option maxRecDepth 100000 in
theorem b_X12_layTried {E : rhE} {Γ : rhG} : ∀ (M : rhM) (v0 : Nat) (v1 : Int32), rhF E 1 3 yX12_layTried cX12_layTried none Γ (rhe1U Γ) (f_X12_layTried Γ M v0 v1) 0 [(0, rhR v0), (1, rhI v1)] [] Γ M := by
  intro M v0 v1
  rw [f_X12_layTried]
  refine rhF.iconst (pc := 0) (v := 0) dX12_layTried_0 (by decide) ?_
  refine rhF.istore_n (pc := 1) (L' := [(2, rhI _), (0, rhR _), (1, rhI _)]) dX12_layTried_1 (by decide) rfl ?_
  refine rhF.sub [1, 2, 0] rfl ?_
  exact (b_X12_layTried_2 (b_X12_layTried_31) rhFU) _ _ _ _
theorem c_X12_layTried (E : rhE) (Γ : rhG) (M : rhM) (v0 : Nat) (v1 : Int32) : ∀ a, f_X12_layTried Γ M v0 v1 = some a → rhC E 1 yX12_layTried cX12_layTried 3 none [rhR v0, rhI v1] Γ M ((rhe1U Γ) a) := rhF.met (by decide +kernel) (Nat.le_of_ble_eq_true rfl) (b_X12_layTried M v0 v1)
def f_X12_nextPull_9 (Γ : rhG) : Nat → rhM → Nat → Int32 → Option (Int32 × rhM)
  | 0, _, _, _ => none
  | n + 1, M, v0, v3 =>
    if v3 < 500 then
      (rhck (Γ.2.2.1 v0 = 13) <|
      (f_X12_isLawful Γ M v0 (v3 / 100) ((v3 / 10) - (v3 / 10) / 10 * 10) (v3 - v3 / 10 * 10)).bind fun r6 =>
      if r6.1 = 0 then
        (let x8 : Int32 := v3 + 1
        f_X12_nextPull_9 Γ n r6.2 v0 x8)
      else
        some ((v3, r6.2)))
    else
      some (((-1), M))
def f_X12_nextPull (Γ : rhG) (M : rhM) (v0 : Nat) (v1 : Int32) (v2 : Int32) : Option (Int32 × rhM) :=
  rhck (Γ.2.2.1 v0 = 13) <|
  (f_X12_layTried Γ M v0 v1).bind fun r2 =>
  let x3 := v2 + 1
  f_X12_nextPull_9 Γ rhFU r2 v0 x3
set_option maxHeartbeats 4000000 in
set_option maxRecDepth 100000 in
theorem b_X12_nextPull_9 {E : rhE} {Γ : rhG} : ∀ (n : Nat) (M : rhM) (v0 : Nat) (v3 : Int32), rhF E 9 4 yX12_nextPull cX12_nextPull (some .int) Γ (rhe1I Γ) (f_X12_nextPull_9 Γ n M v0 v3) 9 [(0, rhR v0), (3, rhI v3)] [] Γ M := by
  intro n
  induction n with
  | zero => intro M v0 v3; rw [f_X12_nextPull_9]; exact rhF.nope
  | succ n ih =>
    intro M v0 v3
    rw [f_X12_nextPull_9]
    refine rhF.iload_n (pc := 9) dX12_nextPull_9 1 rfl ?_
    refine rhF.sipush (pc := 10) (v := 500) dX12_nextPull_10 (by decide) ?_
    refine rhF.icmp_ge (pc := 13) 46 dX12_nextPull_13 (by decide) (fun h4 => ?_) (fun h4 => ?_)
    · refine rhF.aload_n (pc := 16) dX12_nextPull_16 0 rfl ?_
      refine rhF.iload_n (pc := 17) dX12_nextPull_17 1 rfl ?_
      refine rhF.bipush (pc := 18) (v := 100) dX12_nextPull_18 (by decide) ?_
      refine rhF.idivc (pc := 20) dX12_nextPull_20 (by decide) ?_
      refine rhF.iload_n (pc := 21) dX12_nextPull_21 1 rfl ?_
      refine rhF.bipush (pc := 22) (v := 10) dX12_nextPull_22 (by decide) ?_
      refine rhF.idivc (pc := 24) dX12_nextPull_24 (by decide) ?_
      refine rhF.bipush (pc := 25) (v := 10) dX12_nextPull_25 (by decide) ?_
      refine rhF.iremc (pc := 27) dX12_nextPull_27 (by decide) ?_
      refine rhF.iload_n (pc := 28) dX12_nextPull_28 1 rfl ?_
      refine rhF.bipush (pc := 29) (v := 10) dX12_nextPull_29 (by decide) ?_
      refine rhF.iremc (pc := 31) dX12_nextPull_31 (by decide) ?_
      refine rhF.ck (fun h5 => ?_)
      refine rhF.callV (pc := 32) (ci := 12) (embc := rhe1I _) [rhI _, rhI _, rhI _] dX12_nextPull_32 ml_X12_471 mv_X12_isLawful ⟨_, rfl, rfl⟩ h5 (c_X12_isLawful _ _ _ _ _ _ _) (by decide) (by decide) rfl (Nat.le_of_ble_eq_true rfl) (fun r6 _ => ?_)
      refine rhF.if_eq (pc := 35) 40 dX12_nextPull_35 (by decide) (fun h7 => ?_) (fun h7 => ?_)
      · refine rhF.iinc (pc := 40) (L' := [(3, rhI _), (0, rhR _)]) dX12_nextPull_40 1 rfl rfl (by decide) rfl ?_
        refine rhF.goto (pc := 43) 9 dX12_nextPull_43 (by decide) ?_
        refine rhF.sub [1, 0] rfl ?_
        exact ih _ _ _
      · refine rhF.iload_n (pc := 38) dX12_nextPull_38 1 rfl ?_
        exact rhF.zret (pc := 39) dX12_nextPull_39 rfl rfl rfl
    · refine rhF.iconst (pc := 46) (v := (-1)) dX12_nextPull_46 (by decide) ?_
      exact rhF.zret (pc := 47) dX12_nextPull_47 rfl rfl rfl
set_option maxHeartbeats 4000000 in
set_option maxRecDepth 100000 in
theorem b_X12_nextPull {E : rhE} {Γ : rhG} : ∀ (M : rhM) (v0 : Nat) (v1 : Int32) (v2 : Int32), rhF E 9 4 yX12_nextPull cX12_nextPull (some .int) Γ (rhe1I Γ) (f_X12_nextPull Γ M v0 v1 v2) 0 [(0, rhR v0), (1, rhI v1), (2, rhI v2)] [] Γ M := by
  intro M v0 v1 v2
  rw [f_X12_nextPull]
  refine rhF.aload_n (pc := 0) dX12_nextPull_0 0 rfl ?_
  refine rhF.iload_n (pc := 1) dX12_nextPull_1 1 rfl ?_
  refine rhF.ck (fun h1 => ?_)
  refine rhF.callV (pc := 2) (ci := 12) (embc := rhe1U _) [rhI _] dX12_nextPull_2 ml_X12_562 mv_X12_layTried ⟨_, rfl, rfl⟩ h1 (c_X12_layTried _ _ _ _ _) (by decide) (by decide) rfl (Nat.le_of_ble_eq_true rfl) (fun r2 _ => ?_)
  refine rhF.iload_n (pc := 5) dX12_nextPull_5 2 rfl ?_
  refine rhF.iconst (pc := 6) (v := 1) dX12_nextPull_6 (by decide) ?_
  refine rhF.iadd (pc := 7) dX12_nextPull_7 ?_
  refine rhF.istore_n (pc := 8) (L' := [(3, rhI _), (0, rhR _), (1, rhI _), (2, rhI _)]) dX12_nextPull_8 (by decide) rfl ?_
  refine rhF.sub [1, 0] rfl ?_
  exact (b_X12_nextPull_9 rhFU) _ _ _
theorem c_X12_nextPull (E : rhE) (Γ : rhG) (M : rhM) (v0 : Nat) (v1 : Int32) (v2 : Int32) : ∀ a, f_X12_nextPull Γ M v0 v1 v2 = some a → rhC E 9 yX12_nextPull cX12_nextPull 4 (some .int) [rhR v0, rhI v1, rhI v2] Γ M ((rhe1I Γ) a) := rhF.met (by decide +kernel) (Nat.le_of_ble_eq_true rfl) (b_X12_nextPull M v0 v1 v2)
def f_X12_isHouse (Γ : rhG) (M : rhM) (v0 : Nat) (v1 : Int32) : Option (Int32) :=
  rhck (Γ.2.2.1 v0 = 13) <|
  (f_X12_houseMany Γ M v0).bind fun r2 =>
  (f_X12_isIn Γ M v1 (0 : Int32) (r2 - 1)).bind fun r3 =>
  rhck (r3 = 0 ∨ r3 = 1) <|
  some r3
set_option maxHeartbeats 4000000 in
set_option maxRecDepth 100000 in
theorem b_X12_isHouse {E : rhE} {Γ : rhG} {M : rhM} : ∀ (v0 : Nat) (v1 : Int32), rhF E 5 2 yX12_isHouse cX12_isHouse (some .boolean) Γ (rhe0I Γ M) (f_X12_isHouse Γ M v0 v1) 0 [(0, rhR v0), (1, rhI v1)] [] Γ M := by
  intro v0 v1
  rw [f_X12_isHouse]
  refine rhF.iload_n (pc := 0) dX12_isHouse_0 1 rfl ?_
  refine rhF.iconst (pc := 1) (v := 0) dX12_isHouse_1 (by decide) ?_
  refine rhF.aload_n (pc := 2) dX12_isHouse_2 0 rfl ?_
  refine rhF.ck (fun h1 => ?_)
  refine rhF.callV (pc := 3) (ci := 12) (embc := rhe0I _ _) [] dX12_isHouse_3 ml_X12_419 mv_X12_houseMany ⟨_, rfl, rfl⟩ h1 (c_X12_houseMany _ _ _ _) (by decide) (by decide) rfl (Nat.le_of_ble_eq_true rfl) (fun r2 _ => ?_)
  refine rhF.iconst (pc := 6) (v := 1) dX12_isHouse_6 (by decide) ?_
  refine rhF.isub (pc := 7) dX12_isHouse_7 ?_
  refine rhF.callS (pc := 8) (embc := rhe0I _ _) [rhI _, rhI _, rhI _] dX12_isHouse_8 ml_X12_415 ms_X12_isIn (c_X12_isIn _ _ _ _ _ _) (by decide) (by decide) rfl (Nat.le_of_ble_eq_true rfl) (fun r3 _ => ?_)
  refine rhF.ck (fun h4 => ?_)
  exact rhF.zret (pc := 11) dX12_isHouse_11 rfl (rhzb h4) rfl
theorem c_X12_isHouse (E : rhE) (Γ : rhG) (M : rhM) (v0 : Nat) (v1 : Int32) : ∀ a, f_X12_isHouse Γ M v0 v1 = some a → rhC E 5 yX12_isHouse cX12_isHouse 2 (some .boolean) [rhR v0, rhI v1] Γ M ((rhe0I Γ M) a) := rhF.met (by decide +kernel) (Nat.le_of_ble_eq_true rfl) (b_X12_isHouse v0 v1)
def f_X12_isMany (Γ : rhG) (M : rhM) (v0 : Nat) : Option (Int32) :=
  rhck (Γ.2.2.1 v0 = 13) <|
  (f_X12_houseMany Γ M v0).bind fun r2 =>
  if 6 < r2 then
    (some 1)
  else
    (f_X12_railMany Γ M v0).bind fun r4 =>
    if 4 < r4 then
      (some 1)
    else
      some 0
set_option maxHeartbeats 4000000 in
set_option maxRecDepth 100000 in
theorem b_X12_isMany {E : rhE} {Γ : rhG} {M : rhM} : ∀ (v0 : Nat), rhF E 5 1 yX12_isMany cX12_isMany (some .boolean) Γ (rhe0I Γ M) (f_X12_isMany Γ M v0) 0 [(0, rhR v0)] [] Γ M := by
  intro v0
  rw [f_X12_isMany]
  refine rhF.aload_n (pc := 0) dX12_isMany_0 0 rfl ?_
  refine rhF.ck (fun h1 => ?_)
  refine rhF.callV (pc := 1) (ci := 12) (embc := rhe0I _ _) [] dX12_isMany_1 ml_X12_419 mv_X12_houseMany ⟨_, rfl, rfl⟩ h1 (c_X12_houseMany _ _ _ _) (by decide) (by decide) rfl (Nat.le_of_ble_eq_true rfl) (fun r2 _ => ?_)
  refine rhF.bipush (pc := 4) (v := 6) dX12_isMany_4 (by decide) ?_
  refine rhF.icmp_gt (pc := 6) 17 dX12_isMany_6 (by decide) (fun h3 => ?_) (fun h3 => ?_)
  · refine rhF.iconst (pc := 17) (v := 1) dX12_isMany_17 (by decide) ?_
    refine rhF.goto (pc := 18) 22 dX12_isMany_18 (by decide) ?_
    exact rhF.zret (pc := 22) dX12_isMany_22 rfl rfl rfl
  · refine rhF.aload_n (pc := 9) dX12_isMany_9 0 rfl ?_
    refine rhF.callV (pc := 10) (ci := 12) (embc := rhe0I _ _) [] dX12_isMany_10 ml_X12_412 mv_X12_railMany ⟨_, rfl, rfl⟩ h1 (c_X12_railMany _ _ _ _) (by decide) (by decide) rfl (Nat.le_of_ble_eq_true rfl) (fun r4 _ => ?_)
    refine rhF.iconst (pc := 13) (v := 4) dX12_isMany_13 (by decide) ?_
    refine rhF.icmp_le (pc := 14) 21 dX12_isMany_14 (by decide) (fun h5 => ?_) (fun h5 => ?_)
    · refine rhF.iconst (pc := 17) (v := 1) dX12_isMany_17 (by decide) ?_
      refine rhF.goto (pc := 18) 22 dX12_isMany_18 (by decide) ?_
      exact rhF.zret (pc := 22) dX12_isMany_22 rfl rfl rfl
    · refine rhF.iconst (pc := 21) (v := 0) dX12_isMany_21 (by decide) ?_
      exact rhF.zret (pc := 22) dX12_isMany_22 rfl rfl rfl
theorem c_X12_isMany (E : rhE) (Γ : rhG) (M : rhM) (v0 : Nat) : ∀ a, f_X12_isMany Γ M v0 = some a → rhC E 5 yX12_isMany cX12_isMany 1 (some .boolean) [rhR v0] Γ M ((rhe0I Γ M) a) := rhF.met (by decide +kernel) (Nat.le_of_ble_eq_true rfl) (b_X12_isMany v0)
def f_X12_layWay_17 (Γ : rhG) : Nat → rhM → Nat → Int32 → Int32 → Option (rhM)
  | 0, _, _, _, _ => none
  | n + 1, M, v0, v2, v3 =>
    rhck (Γ.2.2.1 v0 = 13) <|
    rhck (Γ.2.2.1 (M.2.2 v0 55) = 15) <|
    rhck (0 ≤ (v3).toInt ∧ (v3).toInt < (Γ.2.2.2 (M.2.2 v0 55) : Nat)) <|
    if (M.1 (M.2.2 v0 55) v3.toNatClampNeg) < 0 then
      (some M)
    else
      let x10 : Int32 := v2 + (-1)
      rhck (Γ.2.2.1 (M.2.2 v0 54) = 15) <|
      rhck (0 ≤ (v3).toInt ∧ (v3).toInt < (Γ.2.2.2 (M.2.2 v0 54) : Nat)) <|
      rhck (Γ.2.2.1 (M.2.2 v0 65) = 15) <|
      rhck (0 ≤ (x10).toInt ∧ (x10).toInt < (Γ.2.2.2 (M.2.2 v0 65) : Nat)) <|
      let M15 := rhsi M (M.2.2 v0 65) (x10 : Int32).toNatClampNeg (M.1 (M.2.2 v0 54) v3.toNatClampNeg)
      let x16 := M15.1 (M.2.2 v0 55) v3.toNatClampNeg
      f_X12_layWay_17 Γ n M15 v0 x10 x16
def f_X12_layWay (Γ : rhG) (M : rhM) (v0 : Nat) (v1 : Int32) : Option (rhM) :=
  rhck (Γ.2.2.1 v0 = 13) <|
  rhck (Γ.2.2.1 (M.2.2 v0 56) = 15) <|
  rhck (0 ≤ (v1).toInt ∧ (v1).toInt < (Γ.2.2.2 (M.2.2 v0 56) : Nat)) <|
  let M4 := rhsi M v0 66 (M.1 (M.2.2 v0 56) v1.toNatClampNeg)
  let x5 := M4.1 v0 66
  f_X12_layWay_17 Γ rhFU M4 v0 x5 v1
set_option maxHeartbeats 4000000 in
set_option maxRecDepth 100000 in
theorem b_X12_layWay_17 {E : rhE} {Γ : rhG} : ∀ (n : Nat) (M : rhM) (v0 : Nat) (v2 : Int32) (v3 : Int32), rhF E 1 4 yX12_layWay cX12_layWay none Γ (rhe1U Γ) (f_X12_layWay_17 Γ n M v0 v2 v3) 17 [(0, rhR v0), (2, rhI v2), (3, rhI v3)] [] Γ M := by
  intro n
  induction n with
  | zero => intro M v0 v2 v3; rw [f_X12_layWay_17]; exact rhF.nope
  | succ n ih =>
    intro M v0 v2 v3
    rw [f_X12_layWay_17]
    refine rhF.aload_n (pc := 17) dX12_layWay_17 0 rfl ?_
    refine rhF.ck (fun h6 => ?_)
    refine rhF.get (pc := 18) (rhR _) dX12_layWay_18 fl_X12_126 h6 rfl ?_
    refine rhF.iload_n (pc := 21) dX12_layWay_21 2 rfl ?_
    refine rhF.ck (fun h7 => ?_)
    refine rhF.ck (fun h8 => ?_)
    refine rhF.iald (pc := 22) dX12_layWay_22 h7 h8 ?_
    refine rhF.if_lt (pc := 23) 51 dX12_layWay_23 (by decide) (fun h9 => ?_) (fun h9 => ?_)
    · exact rhF.vret (pc := 51) dX12_layWay_51 rfl rfl
    · refine rhF.iinc (pc := 26) (L' := [(2, rhI _), (0, rhR _), (3, rhI _)]) dX12_layWay_26 1 rfl rfl (by decide) rfl ?_
      refine rhF.aload_n (pc := 29) dX12_layWay_29 1 rfl ?_
      refine rhF.get (pc := 30) (rhR _) dX12_layWay_30 fl_X12_148 h6 rfl ?_
      refine rhF.iload_n (pc := 33) dX12_layWay_33 0 rfl ?_
      refine rhF.aload_n (pc := 34) dX12_layWay_34 1 rfl ?_
      refine rhF.get (pc := 35) (rhR _) dX12_layWay_35 fl_X12_123 h6 rfl ?_
      refine rhF.iload_n (pc := 38) dX12_layWay_38 2 rfl ?_
      refine rhF.ck (fun h11 => ?_)
      refine rhF.ck (fun h12 => ?_)
      refine rhF.iald (pc := 39) dX12_layWay_39 h11 h12 ?_
      refine rhF.ck (fun h13 => ?_)
      refine rhF.ck (fun h14 => ?_)
      refine rhF.iast (pc := 40) dX12_layWay_40 h13 h14 ?_
      refine rhF.aload_n (pc := 41) dX12_layWay_41 1 rfl ?_
      refine rhF.get (pc := 42) (rhR _) dX12_layWay_42 fl_X12_126 h6 rfl ?_
      refine rhF.iload_n (pc := 45) dX12_layWay_45 2 rfl ?_
      refine rhF.iald (pc := 46) dX12_layWay_46 h7 h8 ?_
      refine rhF.istore_n (pc := 47) (L' := [(3, rhI _), (2, rhI _), (0, rhR _)]) dX12_layWay_47 (by decide) rfl ?_
      refine rhF.goto (pc := 48) 17 dX12_layWay_48 (by decide) ?_
      refine rhF.sub [2, 1, 0] rfl ?_
      exact ih _ _ _ _
set_option maxHeartbeats 4000000 in
set_option maxRecDepth 100000 in
theorem b_X12_layWay {E : rhE} {Γ : rhG} : ∀ (M : rhM) (v0 : Nat) (v1 : Int32), rhF E 1 4 yX12_layWay cX12_layWay none Γ (rhe1U Γ) (f_X12_layWay Γ M v0 v1) 0 [(0, rhR v0), (1, rhI v1)] [] Γ M := by
  intro M v0 v1
  rw [f_X12_layWay]
  refine rhF.aload_n (pc := 0) dX12_layWay_0 0 rfl ?_
  refine rhF.aload_n (pc := 1) dX12_layWay_1 0 rfl ?_
  refine rhF.ck (fun h1 => ?_)
  refine rhF.get (pc := 2) (rhR _) dX12_layWay_2 fl_X12_129 h1 rfl ?_
  refine rhF.iload_n (pc := 5) dX12_layWay_5 1 rfl ?_
  refine rhF.ck (fun h2 => ?_)
  refine rhF.ck (fun h3 => ?_)
  refine rhF.iald (pc := 6) dX12_layWay_6 h2 h3 ?_
  refine rhF.puti (pc := 7) dX12_layWay_7 fl_X12_342 h1 (fun q hq => by cases hq; exact Or.inl rfl) ⟨rfl, rfl⟩ (fun _ => rfl) ?_
  refine rhF.aload_n (pc := 10) dX12_layWay_10 0 rfl ?_
  refine rhF.get (pc := 11) (rhI _) dX12_layWay_11 fl_X12_342 h1 rfl ?_
  refine rhF.istore_n (pc := 14) (L' := [(2, rhI _), (0, rhR _), (1, rhI _)]) dX12_layWay_14 (by decide) rfl ?_
  refine rhF.iload_n (pc := 15) dX12_layWay_15 2 rfl ?_
  refine rhF.istore_n (pc := 16) (L' := [(3, rhI _), (2, rhI _), (0, rhR _), (1, rhI _)]) dX12_layWay_16 (by decide) rfl ?_
  refine rhF.sub [2, 1, 0] rfl ?_
  exact (b_X12_layWay_17 rhFU) _ _ _ _
theorem c_X12_layWay (E : rhE) (Γ : rhG) (M : rhM) (v0 : Nat) (v1 : Int32) : ∀ a, f_X12_layWay Γ M v0 v1 = some a → rhC E 1 yX12_layWay cX12_layWay 4 none [rhR v0, rhI v1] Γ M ((rhe1U Γ) a) := rhF.met (by decide +kernel) (Nat.le_of_ble_eq_true rfl) (b_X12_layWay M v0 v1)
def f_X12_layNow_2 (k26 : rhM → Nat → Option (rhM)) (Γ : rhG) : Nat → rhM → Nat → Int32 → Option (rhM)
  | 0, _, _, _ => none
  | n + 1, M, v0, v1 =>
    if v1 < 8 then
      (rhck (Γ.2.2.1 v0 = 13) <|
      rhck (Γ.2.2.1 (M.2.2 v0 42) = 15) <|
      rhck (0 ≤ (v1).toInt ∧ (v1).toInt < (Γ.2.2.2 (M.2.2 v0 42) : Nat)) <|
      rhck (Γ.2.2.1 (M.2.2 v0 39) = 15) <|
      rhck (0 ≤ (v1).toInt ∧ (v1).toInt < (Γ.2.2.2 (M.2.2 v0 39) : Nat)) <|
      let M7 := rhsi M (M.2.2 v0 39) (v1 : Int32).toNatClampNeg (M.1 (M.2.2 v0 42) v1.toNatClampNeg)
      let x8 : Int32 := v1 + 1
      f_X12_layNow_2 k26 Γ n M7 v0 x8)
    else
      k26 M v0
def f_X12_layNow_28 (Γ : rhG) : Nat → rhM → Nat → Int32 → Option (rhM)
  | 0, _, _, _ => none
  | n + 1, M, v0, v1 =>
    if v1 < 5 then
      (rhck (Γ.2.2.1 v0 = 13) <|
      rhck (Γ.2.2.1 (M.2.2 v0 43) = 15) <|
      rhck (0 ≤ (v1).toInt ∧ (v1).toInt < (Γ.2.2.2 (M.2.2 v0 43) : Nat)) <|
      rhck (Γ.2.2.1 (M.2.2 v0 40) = 15) <|
      rhck (0 ≤ (v1).toInt ∧ (v1).toInt < (Γ.2.2.2 (M.2.2 v0 40) : Nat)) <|
      let M15 := rhsi M (M.2.2 v0 40) (v1 : Int32).toNatClampNeg (M.1 (M.2.2 v0 43) v1.toNatClampNeg)
      let x16 : Int32 := v1 + 1
      f_X12_layNow_28 Γ n M15 v0 x16)
    else
      some M
def f_X12_layNow_26 (Γ : rhG) (M : rhM) (v0 : Nat) : Option (rhM) :=
  f_X12_layNow_28 Γ rhFU M v0 0
def f_X12_layNow (Γ : rhG) (M : rhM) (v0 : Nat) : Option (rhM) :=
  f_X12_layNow_2 (f_X12_layNow_26 Γ) Γ rhFU M v0 0
set_option maxHeartbeats 4000000 in
set_option maxRecDepth 100000 in
theorem b_X12_layNow_2 {E : rhE} {Γ : rhG} {k26 : rhM → Nat → Option (rhM)} (hk26 : ∀ (M : rhM) (v0 : Nat), rhF E 1 2 yX12_layNow cX12_layNow none Γ (rhe1U Γ) (k26 M v0) 26 [(0, rhR v0)] [] Γ M) : ∀ (n : Nat) (M : rhM) (v0 : Nat) (v1 : Int32), rhF E 1 2 yX12_layNow cX12_layNow none Γ (rhe1U Γ) (f_X12_layNow_2 k26 Γ n M v0 v1) 2 [(0, rhR v0), (1, rhI v1)] [] Γ M := by
  intro n
  induction n with
  | zero => intro M v0 v1; rw [f_X12_layNow_2]; exact rhF.nope
  | succ n ih =>
    intro M v0 v1
    rw [f_X12_layNow_2]
    refine rhF.iload_n (pc := 2) dX12_layNow_2 1 rfl ?_
    refine rhF.bipush (pc := 3) (v := 8) dX12_layNow_3 (by decide) ?_
    refine rhF.icmp_ge (pc := 5) 26 dX12_layNow_5 (by decide) (fun h1 => ?_) (fun h1 => ?_)
    · refine rhF.aload_n (pc := 8) dX12_layNow_8 0 rfl ?_
      refine rhF.ck (fun h2 => ?_)
      refine rhF.get (pc := 9) (rhR _) dX12_layNow_9 fl_X12_92 h2 rfl ?_
      refine rhF.iload_n (pc := 12) dX12_layNow_12 1 rfl ?_
      refine rhF.aload_n (pc := 13) dX12_layNow_13 0 rfl ?_
      refine rhF.get (pc := 14) (rhR _) dX12_layNow_14 fl_X12_101 h2 rfl ?_
      refine rhF.iload_n (pc := 17) dX12_layNow_17 1 rfl ?_
      refine rhF.ck (fun h3 => ?_)
      refine rhF.ck (fun h4 => ?_)
      refine rhF.iald (pc := 18) dX12_layNow_18 h3 h4 ?_
      refine rhF.ck (fun h5 => ?_)
      refine rhF.ck (fun h6 => ?_)
      refine rhF.iast (pc := 19) dX12_layNow_19 h5 h6 ?_
      refine rhF.iinc (pc := 20) (L' := [(1, rhI _), (0, rhR _)]) dX12_layNow_20 1 rfl rfl (by decide) rfl ?_
      refine rhF.goto (pc := 23) 2 dX12_layNow_23 (by decide) ?_
      refine rhF.sub [1, 0] rfl ?_
      exact ih _ _ _
    · refine rhF.sub [0] rfl ?_
      exact hk26 _ _
set_option maxHeartbeats 4000000 in
set_option maxRecDepth 100000 in
theorem b_X12_layNow_28 {E : rhE} {Γ : rhG} : ∀ (n : Nat) (M : rhM) (v0 : Nat) (v1 : Int32), rhF E 1 2 yX12_layNow cX12_layNow none Γ (rhe1U Γ) (f_X12_layNow_28 Γ n M v0 v1) 28 [(0, rhR v0), (1, rhI v1)] [] Γ M := by
  intro n
  induction n with
  | zero => intro M v0 v1; rw [f_X12_layNow_28]; exact rhF.nope
  | succ n ih =>
    intro M v0 v1
    rw [f_X12_layNow_28]
    refine rhF.iload_n (pc := 28) dX12_layNow_28 1 rfl ?_
    refine rhF.iconst (pc := 29) (v := 5) dX12_layNow_29 (by decide) ?_
    refine rhF.icmp_ge (pc := 30) 51 dX12_layNow_30 (by decide) (fun h9 => ?_) (fun h9 => ?_)
    · refine rhF.aload_n (pc := 33) dX12_layNow_33 0 rfl ?_
      refine rhF.ck (fun h10 => ?_)
      refine rhF.get (pc := 34) (rhR _) dX12_layNow_34 fl_X12_95 h10 rfl ?_
      refine rhF.iload_n (pc := 37) dX12_layNow_37 1 rfl ?_
      refine rhF.aload_n (pc := 38) dX12_layNow_38 0 rfl ?_
      refine rhF.get (pc := 39) (rhR _) dX12_layNow_39 fl_X12_104 h10 rfl ?_
      refine rhF.iload_n (pc := 42) dX12_layNow_42 1 rfl ?_
      refine rhF.ck (fun h11 => ?_)
      refine rhF.ck (fun h12 => ?_)
      refine rhF.iald (pc := 43) dX12_layNow_43 h11 h12 ?_
      refine rhF.ck (fun h13 => ?_)
      refine rhF.ck (fun h14 => ?_)
      refine rhF.iast (pc := 44) dX12_layNow_44 h13 h14 ?_
      refine rhF.iinc (pc := 45) (L' := [(1, rhI _), (0, rhR _)]) dX12_layNow_45 1 rfl rfl (by decide) rfl ?_
      refine rhF.goto (pc := 48) 28 dX12_layNow_48 (by decide) ?_
      refine rhF.sub [1, 0] rfl ?_
      exact ih _ _ _
    · exact rhF.vret (pc := 51) dX12_layNow_51 rfl rfl
set_option maxHeartbeats 4000000 in
set_option maxRecDepth 100000 in
theorem b_X12_layNow_26 {E : rhE} {Γ : rhG} : ∀ (M : rhM) (v0 : Nat), rhF E 1 2 yX12_layNow cX12_layNow none Γ (rhe1U Γ) (f_X12_layNow_26 Γ M v0) 26 [(0, rhR v0)] [] Γ M := by
  intro M v0
  rw [f_X12_layNow_26]
  refine rhF.iconst (pc := 26) (v := 0) dX12_layNow_26 (by decide) ?_
  refine rhF.istore_n (pc := 27) (L' := [(1, rhI _), (0, rhR _)]) dX12_layNow_27 (by decide) rfl ?_
  refine rhF.sub [1, 0] rfl ?_
  exact (b_X12_layNow_28 rhFU) _ _ _
set_option maxHeartbeats 4000000 in
set_option maxRecDepth 100000 in
theorem b_X12_layNow {E : rhE} {Γ : rhG} : ∀ (M : rhM) (v0 : Nat), rhF E 1 2 yX12_layNow cX12_layNow none Γ (rhe1U Γ) (f_X12_layNow Γ M v0) 0 [(0, rhR v0)] [] Γ M := by
  intro M v0
  rw [f_X12_layNow]
  refine rhF.iconst (pc := 0) (v := 0) dX12_layNow_0 (by decide) ?_
  refine rhF.istore_n (pc := 1) (L' := [(1, rhI _), (0, rhR _)]) dX12_layNow_1 (by decide) rfl ?_
  refine rhF.sub [1, 0] rfl ?_
  exact (b_X12_layNow_2 (b_X12_layNow_26) rhFU) _ _ _
theorem c_X12_layNow (E : rhE) (Γ : rhG) (M : rhM) (v0 : Nat) : ∀ a, f_X12_layNow Γ M v0 = some a → rhC E 1 yX12_layNow cX12_layNow 2 none [rhR v0] Γ M ((rhe1U Γ) a) := rhF.met (by decide +kernel) (Nat.le_of_ble_eq_true rfl) (b_X12_layNow M v0)
def f_X12_begins_2 (k21 : rhM → Nat → Option (rhM)) (Γ : rhG) : Nat → rhM → Nat → Int32 → Option (rhM)
  | 0, _, _, _ => none
  | n + 1, M, v0, v1 =>
    if v1 < 246960 then
      (rhck (Γ.2.2.1 v0 = 13) <|
      rhck (Γ.2.2.1 (M.2.2 v0 56) = 15) <|
      rhck (0 ≤ (v1).toInt ∧ (v1).toInt < (Γ.2.2.2 (M.2.2 v0 56) : Nat)) <|
      let M5 := rhsi M (M.2.2 v0 56) (v1 : Int32).toNatClampNeg ((-1))
      let x6 : Int32 := v1 + 1
      f_X12_begins_2 k21 Γ n M5 v0 x6)
    else
      k21 M v0
def f_X12_begins_21 (Γ : rhG) (M : rhM) (v0 : Nat) : Option (rhM) :=
  rhck (Γ.2.2.1 v0 = 13) <|
  (f_X12_layNow Γ M v0).bind fun r8 =>
  (f_X12_stateOf Γ r8 v0).bind fun r9 =>
  rhck (Γ.2.2.1 (r8.2.2 v0 56) = 15) <|
  rhck (0 ≤ (r9).toInt ∧ (r9).toInt < (Γ.2.2.2 (r8.2.2 v0 56) : Nat)) <|
  let M12 := rhsi r8 (r8.2.2 v0 56) (r9 : Int32).toNatClampNeg 0
  rhck (Γ.2.2.1 (r8.2.2 v0 55) = 15) <|
  rhck (0 ≤ (r9).toInt ∧ (r9).toInt < (Γ.2.2.2 (r8.2.2 v0 55) : Nat)) <|
  let M15 := rhsi M12 (r8.2.2 v0 55) (r9 : Int32).toNatClampNeg ((-1))
  rhck (Γ.2.2.1 (r8.2.2 v0 58) = 15) <|
  rhck (0 ≤ (0 : Int32).toInt ∧ (0 : Int32).toInt < (Γ.2.2.2 (r8.2.2 v0 58) : Nat)) <|
  let M18 := rhsi M15 (r8.2.2 v0 58) (0 : Int32).toNatClampNeg r9
  let M19 := rhsi M18 v0 60 1
  some M19
def f_X12_begins (Γ : rhG) (M : rhM) (v0 : Nat) : Option (rhM) :=
  f_X12_begins_2 (f_X12_begins_21 Γ) Γ rhFU M v0 0
set_option maxHeartbeats 4000000 in
set_option maxRecDepth 100000 in
theorem b_X12_begins_2 {E : rhE} {Γ : rhG} {k21 : rhM → Nat → Option (rhM)} (hk21 : ∀ (M : rhM) (v0 : Nat), rhF E 6 2 yX12_begins cX12_begins none Γ (rhe1U Γ) (k21 M v0) 21 [(0, rhR v0)] [] Γ M) : ∀ (n : Nat) (M : rhM) (v0 : Nat) (v1 : Int32), rhF E 6 2 yX12_begins cX12_begins none Γ (rhe1U Γ) (f_X12_begins_2 k21 Γ n M v0 v1) 2 [(0, rhR v0), (1, rhI v1)] [] Γ M := by
  intro n
  induction n with
  | zero => intro M v0 v1; rw [f_X12_begins_2]; exact rhF.nope
  | succ n ih =>
    intro M v0 v1
    rw [f_X12_begins_2]
    refine rhF.iload_n (pc := 2) dX12_begins_2 1 rfl ?_
    refine rhF.ldc (pc := 3) dX12_begins_3 k_X12_122 ?_
    refine rhF.icmp_ge (pc := 5) 21 dX12_begins_5 (by decide) (fun h1 => ?_) (fun h1 => ?_)
    · refine rhF.aload_n (pc := 8) dX12_begins_8 0 rfl ?_
      refine rhF.ck (fun h2 => ?_)
      refine rhF.get (pc := 9) (rhR _) dX12_begins_9 fl_X12_129 h2 rfl ?_
      refine rhF.iload_n (pc := 12) dX12_begins_12 1 rfl ?_
      refine rhF.iconst (pc := 13) (v := (-1)) dX12_begins_13 (by decide) ?_
      refine rhF.ck (fun h3 => ?_)
      refine rhF.ck (fun h4 => ?_)
      refine rhF.iast (pc := 14) dX12_begins_14 h3 h4 ?_
      refine rhF.iinc (pc := 15) (L' := [(1, rhI _), (0, rhR _)]) dX12_begins_15 1 rfl rfl (by decide) rfl ?_
      refine rhF.goto (pc := 18) 2 dX12_begins_18 (by decide) ?_
      refine rhF.sub [1, 0] rfl ?_
      exact ih _ _ _
    · refine rhF.sub [0] rfl ?_
      exact hk21 _ _
set_option maxHeartbeats 4000000 in
set_option maxRecDepth 100000 in
theorem b_X12_begins_21 {E : rhE} {Γ : rhG} : ∀ (M : rhM) (v0 : Nat), rhF E 6 2 yX12_begins cX12_begins none Γ (rhe1U Γ) (f_X12_begins_21 Γ M v0) 21 [(0, rhR v0)] [] Γ M := by
  intro M v0
  rw [f_X12_begins_21]
  refine rhF.aload_n (pc := 21) dX12_begins_21 0 rfl ?_
  refine rhF.ck (fun h7 => ?_)
  refine rhF.callV (pc := 22) (ci := 12) (embc := rhe1U _) [] dX12_begins_22 ml_X12_467 mv_X12_layNow ⟨_, rfl, rfl⟩ h7 (c_X12_layNow _ _ _ _) (by decide) (by decide) rfl (Nat.le_of_ble_eq_true rfl) (fun r8 _ => ?_)
  refine rhF.aload_n (pc := 25) dX12_begins_25 0 rfl ?_
  refine rhF.callV (pc := 26) (ci := 12) (embc := rhe0I _ _) [] dX12_begins_26 ml_X12_490 mv_X12_stateOf ⟨_, rfl, rfl⟩ h7 (c_X12_stateOf _ _ _ _) (by decide) (by decide) rfl (Nat.le_of_ble_eq_true rfl) (fun r9 _ => ?_)
  refine rhF.istore_n (pc := 29) (L' := [(1, rhI _), (0, rhR _)]) dX12_begins_29 (by decide) rfl ?_
  refine rhF.aload_n (pc := 30) dX12_begins_30 1 rfl ?_
  refine rhF.get (pc := 31) (rhR _) dX12_begins_31 fl_X12_129 h7 rfl ?_
  refine rhF.iload_n (pc := 34) dX12_begins_34 0 rfl ?_
  refine rhF.iconst (pc := 35) (v := 0) dX12_begins_35 (by decide) ?_
  refine rhF.ck (fun h10 => ?_)
  refine rhF.ck (fun h11 => ?_)
  refine rhF.iast (pc := 36) dX12_begins_36 h10 h11 ?_
  refine rhF.aload_n (pc := 37) dX12_begins_37 1 rfl ?_
  refine rhF.get (pc := 38) (rhR _) dX12_begins_38 fl_X12_126 h7 rfl ?_
  refine rhF.iload_n (pc := 41) dX12_begins_41 0 rfl ?_
  refine rhF.iconst (pc := 42) (v := (-1)) dX12_begins_42 (by decide) ?_
  refine rhF.ck (fun h13 => ?_)
  refine rhF.ck (fun h14 => ?_)
  refine rhF.iast (pc := 43) dX12_begins_43 h13 h14 ?_
  refine rhF.aload_n (pc := 44) dX12_begins_44 1 rfl ?_
  refine rhF.get (pc := 45) (rhR _) dX12_begins_45 fl_X12_136 h7 rfl ?_
  refine rhF.iconst (pc := 48) (v := 0) dX12_begins_48 (by decide) ?_
  refine rhF.iload_n (pc := 49) dX12_begins_49 0 rfl ?_
  refine rhF.ck (fun h16 => ?_)
  refine rhF.ck (fun h17 => ?_)
  refine rhF.iast (pc := 50) dX12_begins_50 h16 h17 ?_
  refine rhF.aload_n (pc := 51) dX12_begins_51 1 rfl ?_
  refine rhF.iconst (pc := 52) (v := 1) dX12_begins_52 (by decide) ?_
  refine rhF.puti (pc := 53) dX12_begins_53 fl_X12_493 h7 (fun q hq => by cases hq; exact Or.inl rfl) ⟨rfl, rfl⟩ (fun _ => rfl) ?_
  exact rhF.vret (pc := 56) dX12_begins_56 rfl rfl
set_option maxHeartbeats 4000000 in
set_option maxRecDepth 100000 in
theorem b_X12_begins {E : rhE} {Γ : rhG} : ∀ (M : rhM) (v0 : Nat), rhF E 6 2 yX12_begins cX12_begins none Γ (rhe1U Γ) (f_X12_begins Γ M v0) 0 [(0, rhR v0)] [] Γ M := by
  intro M v0
  rw [f_X12_begins]
  refine rhF.iconst (pc := 0) (v := 0) dX12_begins_0 (by decide) ?_
  refine rhF.istore_n (pc := 1) (L' := [(1, rhI _), (0, rhR _)]) dX12_begins_1 (by decide) rfl ?_
  refine rhF.sub [1, 0] rfl ?_
  exact (b_X12_begins_2 (b_X12_begins_21) rhFU) _ _ _
theorem c_X12_begins (E : rhE) (Γ : rhG) (M : rhM) (v0 : Nat) : ∀ a, f_X12_begins Γ M v0 = some a → rhC E 6 yX12_begins cX12_begins 2 none [rhR v0] Γ M ((rhe1U Γ) a) := rhF.met (by decide +kernel) (Nat.le_of_ble_eq_true rfl) (b_X12_begins M v0)
def f_X12_isFree_16 (k36 : Nat → Int32 → Option (Int32)) (k64 : Nat → Int32 → Int32 → Option (Int32)) (Γ : rhG) (M : rhM) : Nat → Nat → Int32 → Int32 → Int32 → Option (Int32)
  | 0, _, _, _, _ => none
  | n + 1, v0, v1, v2, v3 =>
    rhck (Γ.2.2.1 v0 = 13) <|
    rhck (Γ.2.2.1 (M.2.2 v0 40) = 15) <|
    rhck (0 ≤ (v2).toInt ∧ (v2).toInt < (Γ.2.2.2 (M.2.2 v0 40) : Nat)) <|
    if v3 < (M.1 (M.2.2 v0 40) v2.toNatClampNeg) then
      (rhck (Γ.2.2.1 (M.2.2 v0 39) = 15) <|
      rhck (0 ≤ (v3).toInt ∧ (v3).toInt < (Γ.2.2.2 (M.2.2 v0 39) : Nat)) <|
      if (M.1 (M.2.2 v0 39) v3.toNatClampNeg) = v1 then
        (k36 v0 v2)
      else
        let x12 : Int32 := v3 + 1
        f_X12_isFree_16 k36 k64 Γ M n v0 v1 v2 x12)
    else
      k64 v0 v1 v2
def f_X12_isFree_64 (k2 : Nat → Int32 → Int32 → Option (Int32)) (Γ : rhG) (M : rhM) (v0 : Nat) (v1 : Int32) (v2 : Int32) : Option (Int32) :=
  let x13 : Int32 := v2 + 1
  k2 v0 v1 x13
def f_X12_isFree_2 (k36 : Nat → Int32 → Option (Int32)) (Γ : rhG) (M : rhM) : Nat → Nat → Int32 → Int32 → Option (Int32)
  | 0, _, _, _ => none
  | n + 1, v0, v1, v2 =>
    rhck (Γ.2.2.1 v0 = 13) <|
    (f_X12_railMany Γ M v0).bind fun r2 =>
    if v2 < r2 then
      ((f_X12_beginOf Γ M v0 v2).bind fun r4 =>
      f_X12_isFree_16 k36 (f_X12_isFree_64 (f_X12_isFree_2 k36 Γ M n) Γ M) Γ M rhFU v0 v1 v2 r4)
    else
      some 1
def f_X12_isFree_36 (Γ : rhG) (M : rhM) (v0 : Nat) (v2 : Int32) : Option (Int32) :=
  rhck (Γ.2.2.1 v0 = 13) <|
  rhck (Γ.2.2.1 (M.2.2 v0 40) = 15) <|
  rhck (0 ≤ (v2).toInt ∧ (v2).toInt < (Γ.2.2.2 (M.2.2 v0 40) : Nat)) <|
  (f_X12_beginOf Γ M v0 v2).bind fun r17 =>
  if ((M.1 (M.2.2 v0 40) v2.toNatClampNeg) - r17) = 1 then
    (some 1)
  else
    some 0
def f_X12_isFree (Γ : rhG) (M : rhM) (v0 : Nat) (v1 : Int32) : Option (Int32) :=
  f_X12_isFree_2 (f_X12_isFree_36 Γ M) Γ M rhFU v0 v1 0
set_option maxHeartbeats 4000000 in
set_option maxRecDepth 100000 in
theorem b_X12_isFree_16 {E : rhE} {Γ : rhG} {M : rhM} {k36 : Nat → Int32 → Option (Int32)} {k64 : Nat → Int32 → Int32 → Option (Int32)} (hk36 : ∀ (v0 : Nat) (v2 : Int32), rhF E 5 4 yX12_isFree cX12_isFree (some .boolean) Γ (rhe0I Γ M) (k36 v0 v2) 36 [(0, rhR v0), (2, rhI v2)] [] Γ M) (hk64 : ∀ (v0 : Nat) (v1 : Int32) (v2 : Int32), rhF E 5 4 yX12_isFree cX12_isFree (some .boolean) Γ (rhe0I Γ M) (k64 v0 v1 v2) 64 [(0, rhR v0), (1, rhI v1), (2, rhI v2)] [] Γ M) : ∀ (n : Nat) (v0 : Nat) (v1 : Int32) (v2 : Int32) (v3 : Int32), rhF E 5 4 yX12_isFree cX12_isFree (some .boolean) Γ (rhe0I Γ M) (f_X12_isFree_16 k36 k64 Γ M n v0 v1 v2 v3) 16 [(0, rhR v0), (1, rhI v1), (2, rhI v2), (3, rhI v3)] [] Γ M := by
  intro n
  induction n with
  | zero => intro v0 v1 v2 v3; rw [f_X12_isFree_16]; exact rhF.nope
  | succ n ih =>
    intro v0 v1 v2 v3
    rw [f_X12_isFree_16]
    refine rhF.iload_n (pc := 16) dX12_isFree_16 3 rfl ?_
    refine rhF.aload_n (pc := 17) dX12_isFree_17 0 rfl ?_
    refine rhF.ck (fun h5 => ?_)
    refine rhF.get (pc := 18) (rhR _) dX12_isFree_18 fl_X12_95 h5 rfl ?_
    refine rhF.iload_n (pc := 21) dX12_isFree_21 2 rfl ?_
    refine rhF.ck (fun h6 => ?_)
    refine rhF.ck (fun h7 => ?_)
    refine rhF.iald (pc := 22) dX12_isFree_22 h6 h7 ?_
    refine rhF.icmp_ge (pc := 23) 64 dX12_isFree_23 (by decide) (fun h8 => ?_) (fun h8 => ?_)
    · refine rhF.aload_n (pc := 26) dX12_isFree_26 0 rfl ?_
      refine rhF.get (pc := 27) (rhR _) dX12_isFree_27 fl_X12_92 h5 rfl ?_
      refine rhF.iload_n (pc := 30) dX12_isFree_30 3 rfl ?_
      refine rhF.ck (fun h9 => ?_)
      refine rhF.ck (fun h10 => ?_)
      refine rhF.iald (pc := 31) dX12_isFree_31 h9 h10 ?_
      refine rhF.iload_n (pc := 32) dX12_isFree_32 1 rfl ?_
      refine rhF.icmp_ne (pc := 33) 58 dX12_isFree_33 (by decide) (fun h11 => ?_) (fun h11 => ?_)
      · refine rhF.sub [0, 2] rfl ?_
        exact hk36 _ _
      · refine rhF.iinc (pc := 58) (L' := [(3, rhI _), (0, rhR _), (1, rhI _), (2, rhI _)]) dX12_isFree_58 3 rfl rfl (by decide) rfl ?_
        refine rhF.goto (pc := 61) 16 dX12_isFree_61 (by decide) ?_
        refine rhF.sub [1, 2, 3, 0] rfl ?_
        exact ih _ _ _ _
    · refine rhF.sub [0, 1, 2] rfl ?_
      exact hk64 _ _ _
set_option maxHeartbeats 4000000 in
set_option maxRecDepth 100000 in
theorem b_X12_isFree_64 {E : rhE} {Γ : rhG} {M : rhM} {k2 : Nat → Int32 → Int32 → Option (Int32)} (hk2 : ∀ (v0 : Nat) (v1 : Int32) (v2 : Int32), rhF E 5 4 yX12_isFree cX12_isFree (some .boolean) Γ (rhe0I Γ M) (k2 v0 v1 v2) 2 [(0, rhR v0), (1, rhI v1), (2, rhI v2)] [] Γ M) : ∀ (v0 : Nat) (v1 : Int32) (v2 : Int32), rhF E 5 4 yX12_isFree cX12_isFree (some .boolean) Γ (rhe0I Γ M) (f_X12_isFree_64 k2 Γ M v0 v1 v2) 64 [(0, rhR v0), (1, rhI v1), (2, rhI v2)] [] Γ M := by
  intro v0 v1 v2
  rw [f_X12_isFree_64]
  refine rhF.iinc (pc := 64) (L' := [(2, rhI _), (0, rhR _), (1, rhI _)]) dX12_isFree_64 2 rfl rfl (by decide) rfl ?_
  refine rhF.goto (pc := 67) 2 dX12_isFree_67 (by decide) ?_
  refine rhF.sub [1, 2, 0] rfl ?_
  exact hk2 _ _ _
set_option maxHeartbeats 4000000 in
set_option maxRecDepth 100000 in
theorem b_X12_isFree_2 {E : rhE} {Γ : rhG} {M : rhM} {k36 : Nat → Int32 → Option (Int32)} (hk36 : ∀ (v0 : Nat) (v2 : Int32), rhF E 5 4 yX12_isFree cX12_isFree (some .boolean) Γ (rhe0I Γ M) (k36 v0 v2) 36 [(0, rhR v0), (2, rhI v2)] [] Γ M) : ∀ (n : Nat) (v0 : Nat) (v1 : Int32) (v2 : Int32), rhF E 5 4 yX12_isFree cX12_isFree (some .boolean) Γ (rhe0I Γ M) (f_X12_isFree_2 k36 Γ M n v0 v1 v2) 2 [(0, rhR v0), (1, rhI v1), (2, rhI v2)] [] Γ M := by
  intro n
  induction n with
  | zero => intro v0 v1 v2; rw [f_X12_isFree_2]; exact rhF.nope
  | succ n ih =>
    intro v0 v1 v2
    rw [f_X12_isFree_2]
    refine rhF.iload_n (pc := 2) dX12_isFree_2 2 rfl ?_
    refine rhF.aload_n (pc := 3) dX12_isFree_3 0 rfl ?_
    refine rhF.ck (fun h1 => ?_)
    refine rhF.callV (pc := 4) (ci := 12) (embc := rhe0I _ _) [] dX12_isFree_4 ml_X12_412 mv_X12_railMany ⟨_, rfl, rfl⟩ h1 (c_X12_railMany _ _ _ _) (by decide) (by decide) rfl (Nat.le_of_ble_eq_true rfl) (fun r2 _ => ?_)
    refine rhF.icmp_ge (pc := 7) 70 dX12_isFree_7 (by decide) (fun h3 => ?_) (fun h3 => ?_)
    · refine rhF.aload_n (pc := 10) dX12_isFree_10 0 rfl ?_
      refine rhF.iload_n (pc := 11) dX12_isFree_11 2 rfl ?_
      refine rhF.callV (pc := 12) (ci := 12) (embc := rhe0I _ _) [rhI _] dX12_isFree_12 ml_X12_425 mv_X12_beginOf ⟨_, rfl, rfl⟩ h1 (c_X12_beginOf _ _ _ _ _) (by decide) (by decide) rfl (Nat.le_of_ble_eq_true rfl) (fun r4 _ => ?_)
      refine rhF.istore_n (pc := 15) (L' := [(3, rhI _), (0, rhR _), (1, rhI _), (2, rhI _)]) dX12_isFree_15 (by decide) rfl ?_
      refine rhF.sub [1, 2, 3, 0] rfl ?_
      exact (b_X12_isFree_16 hk36 (b_X12_isFree_64 ih) rhFU) _ _ _ _
    · refine rhF.iconst (pc := 70) (v := 1) dX12_isFree_70 (by decide) ?_
      exact rhF.zret (pc := 71) dX12_isFree_71 rfl rfl rfl
set_option maxHeartbeats 4000000 in
set_option maxRecDepth 100000 in
theorem b_X12_isFree_36 {E : rhE} {Γ : rhG} {M : rhM} : ∀ (v0 : Nat) (v2 : Int32), rhF E 5 4 yX12_isFree cX12_isFree (some .boolean) Γ (rhe0I Γ M) (f_X12_isFree_36 Γ M v0 v2) 36 [(0, rhR v0), (2, rhI v2)] [] Γ M := by
  intro v0 v2
  rw [f_X12_isFree_36]
  refine rhF.aload_n (pc := 36) dX12_isFree_36 0 rfl ?_
  refine rhF.ck (fun h14 => ?_)
  refine rhF.get (pc := 37) (rhR _) dX12_isFree_37 fl_X12_95 h14 rfl ?_
  refine rhF.iload_n (pc := 40) dX12_isFree_40 1 rfl ?_
  refine rhF.ck (fun h15 => ?_)
  refine rhF.ck (fun h16 => ?_)
  refine rhF.iald (pc := 41) dX12_isFree_41 h15 h16 ?_
  refine rhF.aload_n (pc := 42) dX12_isFree_42 0 rfl ?_
  refine rhF.iload_n (pc := 43) dX12_isFree_43 1 rfl ?_
  refine rhF.callV (pc := 44) (ci := 12) (embc := rhe0I _ _) [rhI _] dX12_isFree_44 ml_X12_425 mv_X12_beginOf ⟨_, rfl, rfl⟩ h14 (c_X12_beginOf _ _ _ _ _) (by decide) (by decide) rfl (Nat.le_of_ble_eq_true rfl) (fun r17 _ => ?_)
  refine rhF.isub (pc := 47) dX12_isFree_47 ?_
  refine rhF.iconst (pc := 48) (v := 1) dX12_isFree_48 (by decide) ?_
  refine rhF.icmp_ne (pc := 49) 56 dX12_isFree_49 (by decide) (fun h18 => ?_) (fun h18 => ?_)
  · refine rhF.iconst (pc := 52) (v := 1) dX12_isFree_52 (by decide) ?_
    refine rhF.goto (pc := 53) 57 dX12_isFree_53 (by decide) ?_
    exact rhF.zret (pc := 57) dX12_isFree_57 rfl rfl rfl
  · refine rhF.iconst (pc := 56) (v := 0) dX12_isFree_56 (by decide) ?_
    exact rhF.zret (pc := 57) dX12_isFree_57 rfl rfl rfl
set_option maxHeartbeats 4000000 in
set_option maxRecDepth 100000 in
theorem b_X12_isFree {E : rhE} {Γ : rhG} {M : rhM} : ∀ (v0 : Nat) (v1 : Int32), rhF E 5 4 yX12_isFree cX12_isFree (some .boolean) Γ (rhe0I Γ M) (f_X12_isFree Γ M v0 v1) 0 [(0, rhR v0), (1, rhI v1)] [] Γ M := by
  intro v0 v1
  rw [f_X12_isFree]
  refine rhF.iconst (pc := 0) (v := 0) dX12_isFree_0 (by decide) ?_
  refine rhF.istore_n (pc := 1) (L' := [(2, rhI _), (0, rhR _), (1, rhI _)]) dX12_isFree_1 (by decide) rfl ?_
  refine rhF.sub [1, 2, 0] rfl ?_
  exact (b_X12_isFree_2 (b_X12_isFree_36) rhFU) _ _ _
theorem c_X12_isFree (E : rhE) (Γ : rhG) (M : rhM) (v0 : Nat) (v1 : Int32) : ∀ a, f_X12_isFree Γ M v0 v1 = some a → rhC E 5 yX12_isFree cX12_isFree 4 (some .boolean) [rhR v0, rhI v1] Γ M ((rhe0I Γ M) a) := rhF.met (by decide +kernel) (Nat.le_of_ble_eq_true rfl) (b_X12_isFree v0 v1)
def f_X12_isEnd_58 (Γ : rhG) (M : rhM) : Nat → Nat → Int32 → Option (Int32)
  | 0, _, _ => none
  | n + 1, v0, v1 =>
    rhck (Γ.2.2.1 v0 = 13) <|
    if v1 < (M.1 v0 53) then
      (rhck (Γ.2.2.1 (M.2.2 v0 39) = 15) <|
      rhck (0 ≤ (v1).toInt ∧ (v1).toInt < (Γ.2.2.2 (M.2.2 v0 39) : Nat)) <|
      rhck (Γ.2.2.1 (M.2.2 v0 52) = 15) <|
      rhck (0 ≤ (v1).toInt ∧ (v1).toInt < (Γ.2.2.2 (M.2.2 v0 52) : Nat)) <|
      if (M.1 (M.2.2 v0 39) v1.toNatClampNeg) = (M.1 (M.2.2 v0 52) v1.toNatClampNeg) then
        (let x19 : Int32 := v1 + 1
        f_X12_isEnd_58 Γ M n v0 x19)
      else
        some 0)
    else
      some 1
def f_X12_isEnd_56 (Γ : rhG) (M : rhM) (v0 : Nat) : Option (Int32) :=
  f_X12_isEnd_58 Γ M rhFU v0 0
def f_X12_isEnd (Γ : rhG) (M : rhM) (v0 : Nat) : Option (Int32) :=
  rhck (Γ.2.2.1 v0 = 13) <|
  if (M.1 v0 61) = 2 then
    (some 0)
  else
    if (M.1 v0 61) = 1 then
      ((f_X12_isFree Γ M v0 (M.1 v0 62)).bind fun r4 =>
      rhck (r4 = 0 ∨ r4 = 1) <|
      some r4)
    else
      if 0 < (M.1 v0 53) then
        ((f_X12_railMany Γ M v0).bind fun r7 =>
        if r7 = 0 then
          (some 0)
        else
          rhck (Γ.2.2.1 (M.2.2 v0 40) = 15) <|
          rhck (0 ≤ (0 : Int32).toInt ∧ (0 : Int32).toInt < (Γ.2.2.2 (M.2.2 v0 40) : Nat)) <|
          if (M.1 (M.2.2 v0 40) (0 : Int32).toNatClampNeg) < (M.1 v0 53) then
            (some 0)
          else
            f_X12_isEnd_56 Γ M v0)
      else
        f_X12_isEnd_56 Γ M v0
set_option maxHeartbeats 4000000 in
set_option maxRecDepth 100000 in
theorem b_X12_isEnd_58 {E : rhE} {Γ : rhG} {M : rhM} : ∀ (n : Nat) (v0 : Nat) (v1 : Int32), rhF E 6 2 yX12_isEnd cX12_isEnd (some .boolean) Γ (rhe0I Γ M) (f_X12_isEnd_58 Γ M n v0 v1) 58 [(0, rhR v0), (1, rhI v1)] [] Γ M := by
  intro n
  induction n with
  | zero => intro v0 v1; rw [f_X12_isEnd_58]; exact rhF.nope
  | succ n ih =>
    intro v0 v1
    rw [f_X12_isEnd_58]
    refine rhF.iload_n (pc := 58) dX12_isEnd_58 1 rfl ?_
    refine rhF.aload_n (pc := 59) dX12_isEnd_59 0 rfl ?_
    refine rhF.ck (fun h12 => ?_)
    refine rhF.get (pc := 60) (rhI _) dX12_isEnd_60 fl_X12_339 h12 rfl ?_
    refine rhF.icmp_ge (pc := 63) 89 dX12_isEnd_63 (by decide) (fun h13 => ?_) (fun h13 => ?_)
    · refine rhF.aload_n (pc := 66) dX12_isEnd_66 0 rfl ?_
      refine rhF.get (pc := 67) (rhR _) dX12_isEnd_67 fl_X12_92 h12 rfl ?_
      refine rhF.iload_n (pc := 70) dX12_isEnd_70 1 rfl ?_
      refine rhF.ck (fun h14 => ?_)
      refine rhF.ck (fun h15 => ?_)
      refine rhF.iald (pc := 71) dX12_isEnd_71 h14 h15 ?_
      refine rhF.aload_n (pc := 72) dX12_isEnd_72 0 rfl ?_
      refine rhF.get (pc := 73) (rhR _) dX12_isEnd_73 fl_X12_119 h12 rfl ?_
      refine rhF.iload_n (pc := 76) dX12_isEnd_76 1 rfl ?_
      refine rhF.ck (fun h16 => ?_)
      refine rhF.ck (fun h17 => ?_)
      refine rhF.iald (pc := 77) dX12_isEnd_77 h16 h17 ?_
      refine rhF.icmp_eq (pc := 78) 83 dX12_isEnd_78 (by decide) (fun h18 => ?_) (fun h18 => ?_)
      · refine rhF.iinc (pc := 83) (L' := [(1, rhI _), (0, rhR _)]) dX12_isEnd_83 1 rfl rfl (by decide) rfl ?_
        refine rhF.goto (pc := 86) 58 dX12_isEnd_86 (by decide) ?_
        refine rhF.sub [1, 0] rfl ?_
        exact ih _ _
      · refine rhF.iconst (pc := 81) (v := 0) dX12_isEnd_81 (by decide) ?_
        exact rhF.zret (pc := 82) dX12_isEnd_82 rfl rfl rfl
    · refine rhF.iconst (pc := 89) (v := 1) dX12_isEnd_89 (by decide) ?_
      exact rhF.zret (pc := 90) dX12_isEnd_90 rfl rfl rfl
set_option maxHeartbeats 4000000 in
set_option maxRecDepth 100000 in
theorem b_X12_isEnd_56 {E : rhE} {Γ : rhG} {M : rhM} : ∀ (v0 : Nat), rhF E 6 2 yX12_isEnd cX12_isEnd (some .boolean) Γ (rhe0I Γ M) (f_X12_isEnd_56 Γ M v0) 56 [(0, rhR v0)] [] Γ M := by
  intro v0
  rw [f_X12_isEnd_56]
  refine rhF.iconst (pc := 56) (v := 0) dX12_isEnd_56 (by decide) ?_
  refine rhF.istore_n (pc := 57) (L' := [(1, rhI _), (0, rhR _)]) dX12_isEnd_57 (by decide) rfl ?_
  refine rhF.sub [1, 0] rfl ?_
  exact (b_X12_isEnd_58 rhFU) _ _
set_option maxHeartbeats 4000000 in
set_option maxRecDepth 100000 in
theorem b_X12_isEnd {E : rhE} {Γ : rhG} {M : rhM} : ∀ (v0 : Nat), rhF E 6 2 yX12_isEnd cX12_isEnd (some .boolean) Γ (rhe0I Γ M) (f_X12_isEnd Γ M v0) 0 [(0, rhR v0)] [] Γ M := by
  intro v0
  rw [f_X12_isEnd]
  refine rhF.aload_n (pc := 0) dX12_isEnd_0 0 rfl ?_
  refine rhF.ck (fun h1 => ?_)
  refine rhF.get (pc := 1) (rhI _) dX12_isEnd_1 fl_X12_481 h1 rfl ?_
  refine rhF.iconst (pc := 4) (v := 2) dX12_isEnd_4 (by decide) ?_
  refine rhF.icmp_ne (pc := 5) 10 dX12_isEnd_5 (by decide) (fun h2 => ?_) (fun h2 => ?_)
  · refine rhF.iconst (pc := 8) (v := 0) dX12_isEnd_8 (by decide) ?_
    exact rhF.zret (pc := 9) dX12_isEnd_9 rfl rfl rfl
  · refine rhF.aload_n (pc := 10) dX12_isEnd_10 0 rfl ?_
    refine rhF.get (pc := 11) (rhI _) dX12_isEnd_11 fl_X12_481 h1 rfl ?_
    refine rhF.iconst (pc := 14) (v := 1) dX12_isEnd_14 (by decide) ?_
    refine rhF.icmp_ne (pc := 15) 27 dX12_isEnd_15 (by decide) (fun h3 => ?_) (fun h3 => ?_)
    · refine rhF.aload_n (pc := 18) dX12_isEnd_18 0 rfl ?_
      refine rhF.aload_n (pc := 19) dX12_isEnd_19 0 rfl ?_
      refine rhF.get (pc := 20) (rhI _) dX12_isEnd_20 fl_X12_484 h1 rfl ?_
      refine rhF.callV (pc := 23) (ci := 12) (embc := rhe0I _ _) [rhI _] dX12_isEnd_23 ml_X12_487 mv_X12_isFree ⟨_, rfl, rfl⟩ h1 (c_X12_isFree _ _ _ _ _) (by decide) (by decide) rfl (Nat.le_of_ble_eq_true rfl) (fun r4 _ => ?_)
      refine rhF.ck (fun h5 => ?_)
      exact rhF.zret (pc := 26) dX12_isEnd_26 rfl (rhzb h5) rfl
    · refine rhF.aload_n (pc := 27) dX12_isEnd_27 0 rfl ?_
      refine rhF.get (pc := 28) (rhI _) dX12_isEnd_28 fl_X12_339 h1 rfl ?_
      refine rhF.if_le (pc := 31) 56 dX12_isEnd_31 (by decide) (fun h6 => ?_) (fun h6 => ?_)
      · refine rhF.aload_n (pc := 34) dX12_isEnd_34 0 rfl ?_
        refine rhF.callV (pc := 35) (ci := 12) (embc := rhe0I _ _) [] dX12_isEnd_35 ml_X12_412 mv_X12_railMany ⟨_, rfl, rfl⟩ h1 (c_X12_railMany _ _ _ _) (by decide) (by decide) rfl (Nat.le_of_ble_eq_true rfl) (fun r7 _ => ?_)
        refine rhF.if_eq (pc := 38) 54 dX12_isEnd_38 (by decide) (fun h8 => ?_) (fun h8 => ?_)
        · refine rhF.iconst (pc := 54) (v := 0) dX12_isEnd_54 (by decide) ?_
          exact rhF.zret (pc := 55) dX12_isEnd_55 rfl rfl rfl
        · refine rhF.aload_n (pc := 41) dX12_isEnd_41 0 rfl ?_
          refine rhF.get (pc := 42) (rhR _) dX12_isEnd_42 fl_X12_95 h1 rfl ?_
          refine rhF.iconst (pc := 45) (v := 0) dX12_isEnd_45 (by decide) ?_
          refine rhF.ck (fun h9 => ?_)
          refine rhF.ck (fun h10 => ?_)
          refine rhF.iald (pc := 46) dX12_isEnd_46 h9 h10 ?_
          refine rhF.aload_n (pc := 47) dX12_isEnd_47 0 rfl ?_
          refine rhF.get (pc := 48) (rhI _) dX12_isEnd_48 fl_X12_339 h1 rfl ?_
          refine rhF.icmp_ge (pc := 51) 56 dX12_isEnd_51 (by decide) (fun h11 => ?_) (fun h11 => ?_)
          · refine rhF.iconst (pc := 54) (v := 0) dX12_isEnd_54 (by decide) ?_
            exact rhF.zret (pc := 55) dX12_isEnd_55 rfl rfl rfl
          · exact (b_X12_isEnd_56) _
      · exact (b_X12_isEnd_56) _
theorem c_X12_isEnd (E : rhE) (Γ : rhG) (M : rhM) (v0 : Nat) : ∀ a, f_X12_isEnd Γ M v0 = some a → rhC E 6 yX12_isEnd cX12_isEnd 2 (some .boolean) [rhR v0] Γ M ((rhe0I Γ M) a) := rhF.met (by decide +kernel) (Nat.le_of_ble_eq_true rfl) (b_X12_isEnd v0)
def f_X12_spread_163 (k46 : rhM → Nat → Int32 → Int32 → Int32 → Int32 → Option (rhM)) (Γ : rhG) (M : rhM) (v0 : Nat) (v1 : Int32) (v2 : Int32) (v3 : Int32) (v4 : Int32) : Option (rhM) :=
  let x17 : Int32 := v4 + 1
  k46 M v0 v1 v2 v3 x17
def f_X12_spread_46 (k169 : rhM → Nat → Int32 → Int32 → Int32 → Option (rhM)) (Γ : rhG) : Nat → rhM → Nat → Int32 → Int32 → Int32 → Int32 → Option (rhM)
  | 0, _, _, _, _, _, _ => none
  | n + 1, M, v0, v1, v2, v3, v4 =>
    rhck (Γ.2.2.1 v0 = 13) <|
    (f_X12_railMany Γ M v0).bind fun r12 =>
    if v4 < r12 then
      ((f_X12_layAt Γ M v0).bind fun r14 =>
      (f_X12_isLawful Γ r14 v0 v2 v3 v4).bind fun r15 =>
      if r15.1 = 0 then
        (f_X12_spread_163 (f_X12_spread_46 k169 Γ n) Γ r15.2 v0 v1 v2 v3 v4)
      else
        (f_X12_moves Γ r15.2 v0 v2 v3 v4).bind fun r18 =>
        (f_X12_stateOf Γ r18 v0).bind fun r19 =>
        rhck (Γ.2.2.1 (r18.2.2 v0 56) = 15) <|
        rhck (0 ≤ (r19).toInt ∧ (r19).toInt < (Γ.2.2.2 (r18.2.2 v0 56) : Nat)) <|
        if (r18.1 (r18.2.2 v0 56) r19.toNatClampNeg) < 0 then
          (rhck (0 ≤ (v1).toInt ∧ (v1).toInt < (Γ.2.2.2 (r18.2.2 v0 56) : Nat)) <|
          let M24 := rhsi r18 (r18.2.2 v0 56) (r19 : Int32).toNatClampNeg ((r18.1 (r18.2.2 v0 56) v1.toNatClampNeg) + 1)
          rhck (Γ.2.2.1 (r18.2.2 v0 55) = 15) <|
          rhck (0 ≤ (r19).toInt ∧ (r19).toInt < (Γ.2.2.2 (r18.2.2 v0 55) : Nat)) <|
          let M27 := rhsi M24 (r18.2.2 v0 55) (r19 : Int32).toNatClampNeg v1
          rhck (Γ.2.2.1 (r18.2.2 v0 54) = 15) <|
          rhck (0 ≤ (r19).toInt ∧ (r19).toInt < (Γ.2.2.2 (r18.2.2 v0 54) : Nat)) <|
          let M30 := rhsi M27 (r18.2.2 v0 54) (r19 : Int32).toNatClampNeg (((100 * v2) + (10 * v3)) + v4)
          rhck (Γ.2.2.1 (r18.2.2 v0 58) = 15) <|
          rhck (0 ≤ (M30.1 v0 60).toInt ∧ (M30.1 v0 60).toInt < (Γ.2.2.2 (r18.2.2 v0 58) : Nat)) <|
          let M33 := rhsi M30 (r18.2.2 v0 58) (M30.1 v0 60 : Int32).toNatClampNeg r19
          let M34 := rhsi M33 v0 60 ((M33.1 v0 60) + 1)
          f_X12_spread_163 (f_X12_spread_46 k169 Γ n) Γ M34 v0 v1 v2 v3 v4)
        else
          f_X12_spread_163 (f_X12_spread_46 k169 Γ n) Γ r18 v0 v1 v2 v3 v4)
    else
      k169 M v0 v1 v2 v3
def f_X12_spread_169 (k16 : rhM → Nat → Int32 → Int32 → Int32 → Option (rhM)) (Γ : rhG) (M : rhM) (v0 : Nat) (v1 : Int32) (v2 : Int32) (v3 : Int32) : Option (rhM) :=
  let x35 : Int32 := v3 + 1
  k16 M v0 v1 v2 x35
def f_X12_spread_39 (k16 : rhM → Nat → Int32 → Int32 → Int32 → Option (rhM)) (k175 : rhM → Nat → Int32 → Int32 → Option (rhM)) (Γ : rhG) (M : rhM) (v0 : Nat) (v1 : Int32) (v2 : Int32) (v3 : Int32) (s0 : Int32) (s1 : Int32) (s2 : Int32) : Option (rhM) :=
  if (s1 - s2) < s0 then
    (k175 M v0 v1 v2)
  else
    f_X12_spread_46 (f_X12_spread_169 k16 Γ) Γ rhFU M v0 v1 v2 v3 0
def f_X12_spread_16 (k175 : rhM → Nat → Int32 → Int32 → Option (rhM)) (Γ : rhG) : Nat → rhM → Nat → Int32 → Int32 → Int32 → Option (rhM)
  | 0, _, _, _, _, _ => none
  | n + 1, M, v0, v1, v2, v3 =>
    rhck (Γ.2.2.1 v0 = 13) <|
    rhck (Γ.2.2.1 (M.2.2 v0 64) = 15) <|
    rhck (0 ≤ (v2).toInt ∧ (v2).toInt < (Γ.2.2.2 (M.2.2 v0 64) : Nat)) <|
    if v2 = 0 then
      (f_X12_spread_39 (f_X12_spread_16 k175 Γ n) k175 Γ M v0 v1 v2 v3 v3 (M.1 (M.2.2 v0 64) v2.toNatClampNeg) 0)
    else
      rhck (0 ≤ (v2 - 1).toInt ∧ (v2 - 1).toInt < (Γ.2.2.2 (M.2.2 v0 64) : Nat)) <|
      f_X12_spread_39 (f_X12_spread_16 k175 Γ n) k175 Γ M v0 v1 v2 v3 v3 (M.1 (M.2.2 v0 64) v2.toNatClampNeg) (M.1 (M.2.2 v0 64) (v2 - 1).toNatClampNeg)
def f_X12_spread_175 (k6 : rhM → Nat → Int32 → Int32 → Option (rhM)) (Γ : rhG) (M : rhM) (v0 : Nat) (v1 : Int32) (v2 : Int32) : Option (rhM) :=
  let x37 : Int32 := v2 + 1
  k6 M v0 v1 x37
def f_X12_spread_6 (Γ : rhG) : Nat → rhM → Nat → Int32 → Int32 → Option (rhM)
  | 0, _, _, _, _ => none
  | n + 1, M, v0, v1, v2 =>
    rhck (Γ.2.2.1 v0 = 13) <|
    (f_X12_railMany Γ M v0).bind fun r4 =>
    if v2 < r4 then
      (f_X12_spread_16 (f_X12_spread_175 (f_X12_spread_6 Γ n) Γ) Γ rhFU M v0 v1 v2 1)
    else
      some M
def f_X12_spread (Γ : rhG) (M : rhM) (v0 : Nat) (v1 : Int32) : Option (rhM) :=
  rhck (Γ.2.2.1 v0 = 13) <|
  (f_X12_keepAt Γ M v0).bind fun r2 =>
  f_X12_spread_6 Γ rhFU r2 v0 v1 0
set_option maxHeartbeats 4000000 in
set_option maxRecDepth 100000 in
theorem b_X12_spread_163 {E : rhE} {Γ : rhG} {k46 : rhM → Nat → Int32 → Int32 → Int32 → Int32 → Option (rhM)} (hk46 : ∀ (M : rhM) (v0 : Nat) (v1 : Int32) (v2 : Int32) (v3 : Int32) (v4 : Int32), rhF E 9 6 yX12_spread cX12_spread none Γ (rhe1U Γ) (k46 M v0 v1 v2 v3 v4) 46 [(0, rhR v0), (1, rhI v1), (2, rhI v2), (3, rhI v3), (4, rhI v4)] [] Γ M) : ∀ (M : rhM) (v0 : Nat) (v1 : Int32) (v2 : Int32) (v3 : Int32) (v4 : Int32), rhF E 9 6 yX12_spread cX12_spread none Γ (rhe1U Γ) (f_X12_spread_163 k46 Γ M v0 v1 v2 v3 v4) 163 [(0, rhR v0), (1, rhI v1), (2, rhI v2), (3, rhI v3), (4, rhI v4)] [] Γ M := by
  intro M v0 v1 v2 v3 v4
  rw [f_X12_spread_163]
  refine rhF.iinc (pc := 163) (L' := [(4, rhI _), (0, rhR _), (1, rhI _), (2, rhI _), (3, rhI _)]) dX12_spread_163 4 rfl rfl (by decide) rfl ?_
  refine rhF.goto (pc := 166) 46 dX12_spread_166 (by decide) ?_
  refine rhF.sub [1, 2, 3, 4, 0] rfl ?_
  exact hk46 _ _ _ _ _ _
set_option maxHeartbeats 4000000 in
set_option maxRecDepth 100000 in
theorem b_X12_spread_46 {E : rhE} {Γ : rhG} {k169 : rhM → Nat → Int32 → Int32 → Int32 → Option (rhM)} (hk169 : ∀ (M : rhM) (v0 : Nat) (v1 : Int32) (v2 : Int32) (v3 : Int32), rhF E 9 6 yX12_spread cX12_spread none Γ (rhe1U Γ) (k169 M v0 v1 v2 v3) 169 [(0, rhR v0), (1, rhI v1), (2, rhI v2), (3, rhI v3)] [] Γ M) : ∀ (n : Nat) (M : rhM) (v0 : Nat) (v1 : Int32) (v2 : Int32) (v3 : Int32) (v4 : Int32), rhF E 9 6 yX12_spread cX12_spread none Γ (rhe1U Γ) (f_X12_spread_46 k169 Γ n M v0 v1 v2 v3 v4) 46 [(0, rhR v0), (1, rhI v1), (2, rhI v2), (3, rhI v3), (4, rhI v4)] [] Γ M := by
  intro n
  induction n with
  | zero => intro M v0 v1 v2 v3 v4; rw [f_X12_spread_46]; exact rhF.nope
  | succ n ih =>
    intro M v0 v1 v2 v3 v4
    rw [f_X12_spread_46]
    refine rhF.iload (pc := 46) dX12_spread_46 4 rfl ?_
    refine rhF.aload_n (pc := 48) dX12_spread_48 0 rfl ?_
    refine rhF.ck (fun h11 => ?_)
    refine rhF.callV (pc := 49) (ci := 12) (embc := rhe0I _ _) [] dX12_spread_49 ml_X12_412 mv_X12_railMany ⟨_, rfl, rfl⟩ h11 (c_X12_railMany _ _ _ _) (by decide) (by decide) rfl (Nat.le_of_ble_eq_true rfl) (fun r12 _ => ?_)
    refine rhF.icmp_ge (pc := 52) 169 dX12_spread_52 (by decide) (fun h13 => ?_) (fun h13 => ?_)
    · refine rhF.aload_n (pc := 55) dX12_spread_55 0 rfl ?_
      refine rhF.callV (pc := 56) (ci := 12) (embc := rhe1U _) [] dX12_spread_56 ml_X12_512 mv_X12_layAt ⟨_, rfl, rfl⟩ h11 (c_X12_layAt _ _ _ _) (by decide) (by decide) rfl (Nat.le_of_ble_eq_true rfl) (fun r14 _ => ?_)
      refine rhF.aload_n (pc := 59) dX12_spread_59 0 rfl ?_
      refine rhF.iload_n (pc := 60) dX12_spread_60 2 rfl ?_
      refine rhF.iload_n (pc := 61) dX12_spread_61 3 rfl ?_
      refine rhF.iload (pc := 62) dX12_spread_62 4 rfl ?_
      refine rhF.callV (pc := 64) (ci := 12) (embc := rhe1I _) [rhI _, rhI _, rhI _] dX12_spread_64 ml_X12_471 mv_X12_isLawful ⟨_, rfl, rfl⟩ h11 (c_X12_isLawful _ _ _ _ _ _ _) (by decide) (by decide) rfl (Nat.le_of_ble_eq_true rfl) (fun r15 _ => ?_)
      refine rhF.if_ne (pc := 67) 73 dX12_spread_67 (by decide) (fun h16 => ?_) (fun h16 => ?_)
      · refine rhF.goto (pc := 70) 163 dX12_spread_70 (by decide) ?_
        exact (b_X12_spread_163 ih) _ _ _ _ _ _
      · refine rhF.aload_n (pc := 73) dX12_spread_73 0 rfl ?_
        refine rhF.iload_n (pc := 74) dX12_spread_74 2 rfl ?_
        refine rhF.iload_n (pc := 75) dX12_spread_75 3 rfl ?_
        refine rhF.iload (pc := 76) dX12_spread_76 4 rfl ?_
        refine rhF.callV (pc := 78) (ci := 12) (embc := rhe1U _) [rhI _, rhI _, rhI _] dX12_spread_78 ml_X12_474 mv_X12_moves ⟨_, rfl, rfl⟩ h11 (c_X12_moves _ _ _ _ _ _ _) (by decide) (by decide) rfl (Nat.le_of_ble_eq_true rfl) (fun r18 _ => ?_)
        refine rhF.aload_n (pc := 81) dX12_spread_81 0 rfl ?_
        refine rhF.callV (pc := 82) (ci := 12) (embc := rhe0I _ _) [] dX12_spread_82 ml_X12_490 mv_X12_stateOf ⟨_, rfl, rfl⟩ h11 (c_X12_stateOf _ _ _ _) (by decide) (by decide) rfl (Nat.le_of_ble_eq_true rfl) (fun r19 _ => ?_)
        refine rhF.istore (pc := 85) (L' := [(5, rhI _), (0, rhR _), (1, rhI _), (2, rhI _), (3, rhI _), (4, rhI _)]) dX12_spread_85 (by decide) rfl ?_
        refine rhF.aload_n (pc := 87) dX12_spread_87 1 rfl ?_
        refine rhF.get (pc := 88) (rhR _) dX12_spread_88 fl_X12_129 h11 rfl ?_
        refine rhF.iload (pc := 91) dX12_spread_91 0 rfl ?_
        refine rhF.ck (fun h20 => ?_)
        refine rhF.ck (fun h21 => ?_)
        refine rhF.iald (pc := 93) dX12_spread_93 h20 h21 ?_
        refine rhF.if_lt (pc := 94) 100 dX12_spread_94 (by decide) (fun h22 => ?_) (fun h22 => ?_)
        · refine rhF.aload_n (pc := 100) dX12_spread_100 1 rfl ?_
          refine rhF.get (pc := 101) (rhR _) dX12_spread_101 fl_X12_129 h11 rfl ?_
          refine rhF.iload (pc := 104) dX12_spread_104 0 rfl ?_
          refine rhF.aload_n (pc := 106) dX12_spread_106 1 rfl ?_
          refine rhF.get (pc := 107) (rhR _) dX12_spread_107 fl_X12_129 h11 rfl ?_
          refine rhF.iload_n (pc := 110) dX12_spread_110 2 rfl ?_
          refine rhF.ck (fun h23 => ?_)
          refine rhF.iald (pc := 111) dX12_spread_111 h20 h23 ?_
          refine rhF.iconst (pc := 112) (v := 1) dX12_spread_112 (by decide) ?_
          refine rhF.iadd (pc := 113) dX12_spread_113 ?_
          refine rhF.iast (pc := 114) dX12_spread_114 h20 h21 ?_
          refine rhF.aload_n (pc := 115) dX12_spread_115 1 rfl ?_
          refine rhF.get (pc := 116) (rhR _) dX12_spread_116 fl_X12_126 h11 rfl ?_
          refine rhF.iload (pc := 119) dX12_spread_119 0 rfl ?_
          refine rhF.iload_n (pc := 121) dX12_spread_121 2 rfl ?_
          refine rhF.ck (fun h25 => ?_)
          refine rhF.ck (fun h26 => ?_)
          refine rhF.iast (pc := 122) dX12_spread_122 h25 h26 ?_
          refine rhF.aload_n (pc := 123) dX12_spread_123 1 rfl ?_
          refine rhF.get (pc := 124) (rhR _) dX12_spread_124 fl_X12_123 h11 rfl ?_
          refine rhF.iload (pc := 127) dX12_spread_127 0 rfl ?_
          refine rhF.bipush (pc := 129) (v := 100) dX12_spread_129 (by decide) ?_
          refine rhF.iload_n (pc := 131) dX12_spread_131 3 rfl ?_
          refine rhF.imul (pc := 132) dX12_spread_132 ?_
          refine rhF.bipush (pc := 133) (v := 10) dX12_spread_133 (by decide) ?_
          refine rhF.iload_n (pc := 135) dX12_spread_135 4 rfl ?_
          refine rhF.imul (pc := 136) dX12_spread_136 ?_
          refine rhF.iadd (pc := 137) dX12_spread_137 ?_
          refine rhF.iload (pc := 138) dX12_spread_138 5 rfl ?_
          refine rhF.iadd (pc := 140) dX12_spread_140 ?_
          refine rhF.ck (fun h28 => ?_)
          refine rhF.ck (fun h29 => ?_)
          refine rhF.iast (pc := 141) dX12_spread_141 h28 h29 ?_
          refine rhF.aload_n (pc := 142) dX12_spread_142 1 rfl ?_
          refine rhF.get (pc := 143) (rhR _) dX12_spread_143 fl_X12_136 h11 rfl ?_
          refine rhF.aload_n (pc := 146) dX12_spread_146 1 rfl ?_
          refine rhF.get (pc := 147) (rhI _) dX12_spread_147 fl_X12_493 h11 rfl ?_
          refine rhF.iload (pc := 150) dX12_spread_150 0 rfl ?_
          refine rhF.ck (fun h31 => ?_)
          refine rhF.ck (fun h32 => ?_)
          refine rhF.iast (pc := 152) dX12_spread_152 h31 h32 ?_
          refine rhF.aload_n (pc := 153) dX12_spread_153 1 rfl ?_
          refine rhF.dupr (pc := 154) dX12_spread_154 ?_
          refine rhF.get (pc := 155) (rhI _) dX12_spread_155 fl_X12_493 h11 rfl ?_
          refine rhF.iconst (pc := 158) (v := 1) dX12_spread_158 (by decide) ?_
          refine rhF.iadd (pc := 159) dX12_spread_159 ?_
          refine rhF.puti (pc := 160) dX12_spread_160 fl_X12_493 h11 (fun q hq => by cases hq; exact Or.inl rfl) ⟨rfl, rfl⟩ (fun _ => rfl) ?_
          refine rhF.sub [1, 2, 3, 4, 5] rfl ?_
          exact (b_X12_spread_163 ih) _ _ _ _ _ _
        · refine rhF.goto (pc := 97) 163 dX12_spread_97 (by decide) ?_
          refine rhF.sub [1, 2, 3, 4, 5] rfl ?_
          exact (b_X12_spread_163 ih) _ _ _ _ _ _
    · refine rhF.sub [0, 1, 2, 3] rfl ?_
      exact hk169 _ _ _ _ _
set_option maxHeartbeats 4000000 in
set_option maxRecDepth 100000 in
theorem b_X12_spread_169 {E : rhE} {Γ : rhG} {k16 : rhM → Nat → Int32 → Int32 → Int32 → Option (rhM)} (hk16 : ∀ (M : rhM) (v0 : Nat) (v1 : Int32) (v2 : Int32) (v3 : Int32), rhF E 9 6 yX12_spread cX12_spread none Γ (rhe1U Γ) (k16 M v0 v1 v2 v3) 16 [(0, rhR v0), (1, rhI v1), (2, rhI v2), (3, rhI v3)] [] Γ M) : ∀ (M : rhM) (v0 : Nat) (v1 : Int32) (v2 : Int32) (v3 : Int32), rhF E 9 6 yX12_spread cX12_spread none Γ (rhe1U Γ) (f_X12_spread_169 k16 Γ M v0 v1 v2 v3) 169 [(0, rhR v0), (1, rhI v1), (2, rhI v2), (3, rhI v3)] [] Γ M := by
  intro M v0 v1 v2 v3
  rw [f_X12_spread_169]
  refine rhF.iinc (pc := 169) (L' := [(3, rhI _), (0, rhR _), (1, rhI _), (2, rhI _)]) dX12_spread_169 3 rfl rfl (by decide) rfl ?_
  refine rhF.goto (pc := 172) 16 dX12_spread_172 (by decide) ?_
  refine rhF.sub [1, 2, 3, 0] rfl ?_
  exact hk16 _ _ _ _ _
set_option maxHeartbeats 4000000 in
set_option maxRecDepth 100000 in
theorem b_X12_spread_39 {E : rhE} {Γ : rhG} {k16 : rhM → Nat → Int32 → Int32 → Int32 → Option (rhM)} {k175 : rhM → Nat → Int32 → Int32 → Option (rhM)} (hk16 : ∀ (M : rhM) (v0 : Nat) (v1 : Int32) (v2 : Int32) (v3 : Int32), rhF E 9 6 yX12_spread cX12_spread none Γ (rhe1U Γ) (k16 M v0 v1 v2 v3) 16 [(0, rhR v0), (1, rhI v1), (2, rhI v2), (3, rhI v3)] [] Γ M) (hk175 : ∀ (M : rhM) (v0 : Nat) (v1 : Int32) (v2 : Int32), rhF E 9 6 yX12_spread cX12_spread none Γ (rhe1U Γ) (k175 M v0 v1 v2) 175 [(0, rhR v0), (1, rhI v1), (2, rhI v2)] [] Γ M) : ∀ (M : rhM) (v0 : Nat) (v1 : Int32) (v2 : Int32) (v3 : Int32) (s0 : Int32) (s1 : Int32) (s2 : Int32), rhF E 9 6 yX12_spread cX12_spread none Γ (rhe1U Γ) (f_X12_spread_39 k16 k175 Γ M v0 v1 v2 v3 s0 s1 s2) 39 [(0, rhR v0), (1, rhI v1), (2, rhI v2), (3, rhI v3)] [rhI s2, rhI s1, rhI s0] Γ M := by
  intro M v0 v1 v2 v3 s0 s1 s2
  rw [f_X12_spread_39]
  refine rhF.isub (pc := 39) dX12_spread_39 ?_
  refine rhF.icmp_gt (pc := 40) 175 dX12_spread_40 (by decide) (fun h10 => ?_) (fun h10 => ?_)
  · refine rhF.sub [0, 1, 2] rfl ?_
    exact hk175 _ _ _ _
  · refine rhF.iconst (pc := 43) (v := 0) dX12_spread_43 (by decide) ?_
    refine rhF.istore (pc := 44) (L' := [(4, rhI _), (0, rhR _), (1, rhI _), (2, rhI _), (3, rhI _)]) dX12_spread_44 (by decide) rfl ?_
    refine rhF.sub [1, 2, 3, 4, 0] rfl ?_
    exact (b_X12_spread_46 (b_X12_spread_169 hk16) rhFU) _ _ _ _ _ _
set_option maxHeartbeats 4000000 in
set_option maxRecDepth 100000 in
theorem b_X12_spread_16 {E : rhE} {Γ : rhG} {k175 : rhM → Nat → Int32 → Int32 → Option (rhM)} (hk175 : ∀ (M : rhM) (v0 : Nat) (v1 : Int32) (v2 : Int32), rhF E 9 6 yX12_spread cX12_spread none Γ (rhe1U Γ) (k175 M v0 v1 v2) 175 [(0, rhR v0), (1, rhI v1), (2, rhI v2)] [] Γ M) : ∀ (n : Nat) (M : rhM) (v0 : Nat) (v1 : Int32) (v2 : Int32) (v3 : Int32), rhF E 9 6 yX12_spread cX12_spread none Γ (rhe1U Γ) (f_X12_spread_16 k175 Γ n M v0 v1 v2 v3) 16 [(0, rhR v0), (1, rhI v1), (2, rhI v2), (3, rhI v3)] [] Γ M := by
  intro n
  induction n with
  | zero => intro M v0 v1 v2 v3; rw [f_X12_spread_16]; exact rhF.nope
  | succ n ih =>
    intro M v0 v1 v2 v3
    rw [f_X12_spread_16]
    refine rhF.iload_n (pc := 16) dX12_spread_16 3 rfl ?_
    refine rhF.aload_n (pc := 17) dX12_spread_17 0 rfl ?_
    refine rhF.ck (fun h6 => ?_)
    refine rhF.get (pc := 18) (rhR _) dX12_spread_18 fl_X12_145 h6 rfl ?_
    refine rhF.iload_n (pc := 21) dX12_spread_21 2 rfl ?_
    refine rhF.ck (fun h7 => ?_)
    refine rhF.ck (fun h8 => ?_)
    refine rhF.iald (pc := 22) dX12_spread_22 h7 h8 ?_
    refine rhF.iload_n (pc := 23) dX12_spread_23 2 rfl ?_
    refine rhF.if_ne (pc := 24) 31 dX12_spread_24 (by decide) (fun h9 => ?_) (fun h9 => ?_)
    · refine rhF.iconst (pc := 27) (v := 0) dX12_spread_27 (by decide) ?_
      refine rhF.goto (pc := 28) 39 dX12_spread_28 (by decide) ?_
      exact (b_X12_spread_39 ih hk175) _ _ _ _ _ _ _ _
    · refine rhF.aload_n (pc := 31) dX12_spread_31 0 rfl ?_
      refine rhF.get (pc := 32) (rhR _) dX12_spread_32 fl_X12_145 h6 rfl ?_
      refine rhF.iload_n (pc := 35) dX12_spread_35 2 rfl ?_
      refine rhF.iconst (pc := 36) (v := 1) dX12_spread_36 (by decide) ?_
      refine rhF.isub (pc := 37) dX12_spread_37 ?_
      refine rhF.ck (fun h36 => ?_)
      refine rhF.iald (pc := 38) dX12_spread_38 h7 h36 ?_
      exact (b_X12_spread_39 ih hk175) _ _ _ _ _ _ _ _
set_option maxHeartbeats 4000000 in
set_option maxRecDepth 100000 in
theorem b_X12_spread_175 {E : rhE} {Γ : rhG} {k6 : rhM → Nat → Int32 → Int32 → Option (rhM)} (hk6 : ∀ (M : rhM) (v0 : Nat) (v1 : Int32) (v2 : Int32), rhF E 9 6 yX12_spread cX12_spread none Γ (rhe1U Γ) (k6 M v0 v1 v2) 6 [(0, rhR v0), (1, rhI v1), (2, rhI v2)] [] Γ M) : ∀ (M : rhM) (v0 : Nat) (v1 : Int32) (v2 : Int32), rhF E 9 6 yX12_spread cX12_spread none Γ (rhe1U Γ) (f_X12_spread_175 k6 Γ M v0 v1 v2) 175 [(0, rhR v0), (1, rhI v1), (2, rhI v2)] [] Γ M := by
  intro M v0 v1 v2
  rw [f_X12_spread_175]
  refine rhF.iinc (pc := 175) (L' := [(2, rhI _), (0, rhR _), (1, rhI _)]) dX12_spread_175 2 rfl rfl (by decide) rfl ?_
  refine rhF.goto (pc := 178) 6 dX12_spread_178 (by decide) ?_
  refine rhF.sub [1, 2, 0] rfl ?_
  exact hk6 _ _ _ _
set_option maxHeartbeats 4000000 in
set_option maxRecDepth 100000 in
theorem b_X12_spread_6 {E : rhE} {Γ : rhG} : ∀ (n : Nat) (M : rhM) (v0 : Nat) (v1 : Int32) (v2 : Int32), rhF E 9 6 yX12_spread cX12_spread none Γ (rhe1U Γ) (f_X12_spread_6 Γ n M v0 v1 v2) 6 [(0, rhR v0), (1, rhI v1), (2, rhI v2)] [] Γ M := by
  intro n
  induction n with
  | zero => intro M v0 v1 v2; rw [f_X12_spread_6]; exact rhF.nope
  | succ n ih =>
    intro M v0 v1 v2
    rw [f_X12_spread_6]
    refine rhF.iload_n (pc := 6) dX12_spread_6 2 rfl ?_
    refine rhF.aload_n (pc := 7) dX12_spread_7 0 rfl ?_
    refine rhF.ck (fun h3 => ?_)
    refine rhF.callV (pc := 8) (ci := 12) (embc := rhe0I _ _) [] dX12_spread_8 ml_X12_412 mv_X12_railMany ⟨_, rfl, rfl⟩ h3 (c_X12_railMany _ _ _ _) (by decide) (by decide) rfl (Nat.le_of_ble_eq_true rfl) (fun r4 _ => ?_)
    refine rhF.icmp_ge (pc := 11) 181 dX12_spread_11 (by decide) (fun h5 => ?_) (fun h5 => ?_)
    · refine rhF.iconst (pc := 14) (v := 1) dX12_spread_14 (by decide) ?_
      refine rhF.istore_n (pc := 15) (L' := [(3, rhI _), (0, rhR _), (1, rhI _), (2, rhI _)]) dX12_spread_15 (by decide) rfl ?_
      refine rhF.sub [1, 2, 3, 0] rfl ?_
      exact (b_X12_spread_16 (b_X12_spread_175 ih) rhFU) _ _ _ _ _
    · exact rhF.vret (pc := 181) dX12_spread_181 rfl rfl
set_option maxHeartbeats 4000000 in
set_option maxRecDepth 100000 in
theorem b_X12_spread {E : rhE} {Γ : rhG} : ∀ (M : rhM) (v0 : Nat) (v1 : Int32), rhF E 9 6 yX12_spread cX12_spread none Γ (rhe1U Γ) (f_X12_spread Γ M v0 v1) 0 [(0, rhR v0), (1, rhI v1)] [] Γ M := by
  intro M v0 v1
  rw [f_X12_spread]
  refine rhF.aload_n (pc := 0) dX12_spread_0 0 rfl ?_
  refine rhF.ck (fun h1 => ?_)
  refine rhF.callV (pc := 1) (ci := 12) (embc := rhe1U _) [] dX12_spread_1 ml_X12_509 mv_X12_keepAt ⟨_, rfl, rfl⟩ h1 (c_X12_keepAt _ _ _ _) (by decide) (by decide) rfl (Nat.le_of_ble_eq_true rfl) (fun r2 _ => ?_)
  refine rhF.iconst (pc := 4) (v := 0) dX12_spread_4 (by decide) ?_
  refine rhF.istore_n (pc := 5) (L' := [(2, rhI _), (0, rhR _), (1, rhI _)]) dX12_spread_5 (by decide) rfl ?_
  refine rhF.sub [1, 2, 0] rfl ?_
  exact (b_X12_spread_6 rhFU) _ _ _ _
theorem c_X12_spread (E : rhE) (Γ : rhG) (M : rhM) (v0 : Nat) (v1 : Int32) : ∀ a, f_X12_spread Γ M v0 v1 = some a → rhC E 9 yX12_spread cX12_spread 6 none [rhR v0, rhI v1] Γ M ((rhe1U Γ) a) := rhF.met (by decide +kernel) (Nat.le_of_ble_eq_true rfl) (b_X12_spread M v0 v1)
def f_X12_search_68 (k11 : rhM → Nat → Int32 → Int32 → Option (Int32 × rhM)) (Γ : rhG) (M : rhM) (v0 : Nat) (v2 : Int32) (v3 : Int32) : Option (Int32 × rhM) :=
  let x17 : Int32 := v3 + 1
  k11 M v0 v2 x17
def f_X12_search_11 (Γ : rhG) : Nat → rhM → Nat → Int32 → Int32 → Option (Int32 × rhM)
  | 0, _, _, _, _ => none
  | n + 1, M, v0, v2, v3 =>
    rhck (Γ.2.2.1 v0 = 13) <|
    if v3 < (M.1 v0 60) then
      (rhck (Γ.2.2.1 (M.2.2 v0 58) = 15) <|
      rhck (0 ≤ (v3).toInt ∧ (v3).toInt < (Γ.2.2.2 (M.2.2 v0 58) : Nat)) <|
      (f_X12_layState Γ M v0 (M.1 (M.2.2 v0 58) v3.toNatClampNeg)).bind fun r8 =>
      (f_X12_isEnd Γ r8 v0).bind fun r9 =>
      if r9 = 0 then
        (rhck (Γ.2.2.1 (r8.2.2 v0 58) = 15) <|
        rhck (0 ≤ (v3).toInt ∧ (v3).toInt < (Γ.2.2.2 (r8.2.2 v0 58) : Nat)) <|
        rhck (Γ.2.2.1 (r8.2.2 v0 56) = 15) <|
        rhck (0 ≤ (r8.1 (r8.2.2 v0 58) v3.toNatClampNeg).toInt ∧ (r8.1 (r8.2.2 v0 58) v3.toNatClampNeg).toInt < (Γ.2.2.2 (r8.2.2 v0 56) : Nat)) <|
        if (r8.1 (r8.2.2 v0 56) (r8.1 (r8.2.2 v0 58) v3.toNatClampNeg).toNatClampNeg) < v2 then
          ((f_X12_spread Γ r8 v0 (r8.1 (r8.2.2 v0 58) v3.toNatClampNeg)).bind fun r16 =>
          f_X12_search_68 (f_X12_search_11 Γ n) Γ r16 v0 v2 v3)
        else
          f_X12_search_68 (f_X12_search_11 Γ n) Γ r8 v0 v2 v3)
      else
        rhck (Γ.2.2.1 (r8.2.2 v0 58) = 15) <|
        rhck (0 ≤ (v3).toInt ∧ (v3).toInt < (Γ.2.2.2 (r8.2.2 v0 58) : Nat)) <|
        some ((r8.1 (r8.2.2 v0 58) v3.toNatClampNeg, r8)))
    else
      some (((-1), M))
def f_X12_search (Γ : rhG) (M : rhM) (v0 : Nat) (v1 : Int32) (v2 : Int32) : Option (Int32 × rhM) :=
  rhck (Γ.2.2.1 v0 = 13) <|
  let M2 := rhsi M v0 61 v1
  (f_X12_begins Γ M2 v0).bind fun r3 =>
  f_X12_search_11 Γ rhFU r3 v0 v2 0
set_option maxHeartbeats 4000000 in
set_option maxRecDepth 100000 in
theorem b_X12_search_68 {E : rhE} {Γ : rhG} {k11 : rhM → Nat → Int32 → Int32 → Option (Int32 × rhM)} (hk11 : ∀ (M : rhM) (v0 : Nat) (v2 : Int32) (v3 : Int32), rhF E 10 4 yX12_search cX12_search (some .int) Γ (rhe1I Γ) (k11 M v0 v2 v3) 11 [(0, rhR v0), (2, rhI v2), (3, rhI v3)] [] Γ M) : ∀ (M : rhM) (v0 : Nat) (v2 : Int32) (v3 : Int32), rhF E 10 4 yX12_search cX12_search (some .int) Γ (rhe1I Γ) (f_X12_search_68 k11 Γ M v0 v2 v3) 68 [(0, rhR v0), (2, rhI v2), (3, rhI v3)] [] Γ M := by
  intro M v0 v2 v3
  rw [f_X12_search_68]
  refine rhF.iinc (pc := 68) (L' := [(3, rhI _), (0, rhR _), (2, rhI _)]) dX12_search_68 2 rfl rfl (by decide) rfl ?_
  refine rhF.goto (pc := 71) 11 dX12_search_71 (by decide) ?_
  refine rhF.sub [1, 2, 0] rfl ?_
  exact hk11 _ _ _ _
set_option maxHeartbeats 4000000 in
set_option maxRecDepth 100000 in
theorem b_X12_search_11 {E : rhE} {Γ : rhG} : ∀ (n : Nat) (M : rhM) (v0 : Nat) (v2 : Int32) (v3 : Int32), rhF E 10 4 yX12_search cX12_search (some .int) Γ (rhe1I Γ) (f_X12_search_11 Γ n M v0 v2 v3) 11 [(0, rhR v0), (2, rhI v2), (3, rhI v3)] [] Γ M := by
  intro n
  induction n with
  | zero => intro M v0 v2 v3; rw [f_X12_search_11]; exact rhF.nope
  | succ n ih =>
    intro M v0 v2 v3
    rw [f_X12_search_11]
    refine rhF.iload_n (pc := 11) dX12_search_11 2 rfl ?_
    refine rhF.aload_n (pc := 12) dX12_search_12 0 rfl ?_
    refine rhF.ck (fun h4 => ?_)
    refine rhF.get (pc := 13) (rhI _) dX12_search_13 fl_X12_493 h4 rfl ?_
    refine rhF.icmp_ge (pc := 16) 74 dX12_search_16 (by decide) (fun h5 => ?_) (fun h5 => ?_)
    · refine rhF.aload_n (pc := 19) dX12_search_19 0 rfl ?_
      refine rhF.aload_n (pc := 20) dX12_search_20 0 rfl ?_
      refine rhF.get (pc := 21) (rhR _) dX12_search_21 fl_X12_136 h4 rfl ?_
      refine rhF.iload_n (pc := 24) dX12_search_24 2 rfl ?_
      refine rhF.ck (fun h6 => ?_)
      refine rhF.ck (fun h7 => ?_)
      refine rhF.iald (pc := 25) dX12_search_25 h6 h7 ?_
      refine rhF.callV (pc := 26) (ci := 12) (embc := rhe1U _) [rhI _] dX12_search_26 ml_X12_499 mv_X12_layState ⟨_, rfl, rfl⟩ h4 (c_X12_layState _ _ _ _ _) (by decide) (by decide) rfl (Nat.le_of_ble_eq_true rfl) (fun r8 _ => ?_)
      refine rhF.aload_n (pc := 29) dX12_search_29 0 rfl ?_
      refine rhF.callV (pc := 30) (ci := 12) (embc := rhe0I _ _) [] dX12_search_30 ml_X12_503 mv_X12_isEnd ⟨_, rfl, rfl⟩ h4 (c_X12_isEnd _ _ _ _) (by decide) (by decide) rfl (Nat.le_of_ble_eq_true rfl) (fun r9 _ => ?_)
      refine rhF.if_eq (pc := 33) 43 dX12_search_33 (by decide) (fun h10 => ?_) (fun h10 => ?_)
      · refine rhF.aload_n (pc := 43) dX12_search_43 0 rfl ?_
        refine rhF.get (pc := 44) (rhR _) dX12_search_44 fl_X12_129 h4 rfl ?_
        refine rhF.aload_n (pc := 47) dX12_search_47 0 rfl ?_
        refine rhF.get (pc := 48) (rhR _) dX12_search_48 fl_X12_136 h4 rfl ?_
        refine rhF.iload_n (pc := 51) dX12_search_51 2 rfl ?_
        refine rhF.ck (fun h11 => ?_)
        refine rhF.ck (fun h12 => ?_)
        refine rhF.iald (pc := 52) dX12_search_52 h11 h12 ?_
        refine rhF.ck (fun h13 => ?_)
        refine rhF.ck (fun h14 => ?_)
        refine rhF.iald (pc := 53) dX12_search_53 h13 h14 ?_
        refine rhF.iload_n (pc := 54) dX12_search_54 1 rfl ?_
        refine rhF.icmp_ge (pc := 55) 68 dX12_search_55 (by decide) (fun h15 => ?_) (fun h15 => ?_)
        · refine rhF.aload_n (pc := 58) dX12_search_58 0 rfl ?_
          refine rhF.aload_n (pc := 59) dX12_search_59 0 rfl ?_
          refine rhF.get (pc := 60) (rhR _) dX12_search_60 fl_X12_136 h4 rfl ?_
          refine rhF.iload_n (pc := 63) dX12_search_63 2 rfl ?_
          refine rhF.iald (pc := 64) dX12_search_64 h11 h12 ?_
          refine rhF.callV (pc := 65) (ci := 12) (embc := rhe1U _) [rhI _] dX12_search_65 ml_X12_506 mv_X12_spread ⟨_, rfl, rfl⟩ h4 (c_X12_spread _ _ _ _ _) (by decide) (by decide) rfl (Nat.le_of_ble_eq_true rfl) (fun r16 _ => ?_)
          exact (b_X12_search_68 ih) _ _ _ _
        · exact (b_X12_search_68 ih) _ _ _ _
      · refine rhF.aload_n (pc := 36) dX12_search_36 0 rfl ?_
        refine rhF.get (pc := 37) (rhR _) dX12_search_37 fl_X12_136 h4 rfl ?_
        refine rhF.iload_n (pc := 40) dX12_search_40 2 rfl ?_
        refine rhF.ck (fun h18 => ?_)
        refine rhF.ck (fun h19 => ?_)
        refine rhF.iald (pc := 41) dX12_search_41 h18 h19 ?_
        exact rhF.zret (pc := 42) dX12_search_42 rfl rfl rfl
    · refine rhF.iconst (pc := 74) (v := (-1)) dX12_search_74 (by decide) ?_
      exact rhF.zret (pc := 75) dX12_search_75 rfl rfl rfl
set_option maxHeartbeats 4000000 in
set_option maxRecDepth 100000 in
theorem b_X12_search {E : rhE} {Γ : rhG} : ∀ (M : rhM) (v0 : Nat) (v1 : Int32) (v2 : Int32), rhF E 10 4 yX12_search cX12_search (some .int) Γ (rhe1I Γ) (f_X12_search Γ M v0 v1 v2) 0 [(0, rhR v0), (1, rhI v1), (2, rhI v2)] [] Γ M := by
  intro M v0 v1 v2
  rw [f_X12_search]
  refine rhF.aload_n (pc := 0) dX12_search_0 0 rfl ?_
  refine rhF.iload_n (pc := 1) dX12_search_1 1 rfl ?_
  refine rhF.ck (fun h1 => ?_)
  refine rhF.puti (pc := 2) dX12_search_2 fl_X12_481 h1 (fun q hq => by cases hq; exact Or.inl rfl) ⟨rfl, rfl⟩ (fun _ => rfl) ?_
  refine rhF.aload_n (pc := 5) dX12_search_5 0 rfl ?_
  refine rhF.callV (pc := 6) (ci := 12) (embc := rhe1U _) [] dX12_search_6 ml_X12_496 mv_X12_begins ⟨_, rfl, rfl⟩ h1 (c_X12_begins _ _ _ _) (by decide) (by decide) rfl (Nat.le_of_ble_eq_true rfl) (fun r3 _ => ?_)
  refine rhF.iconst (pc := 9) (v := 0) dX12_search_9 (by decide) ?_
  refine rhF.istore_n (pc := 10) (L' := [(3, rhI _), (0, rhR _), (1, rhI _), (2, rhI _)]) dX12_search_10 (by decide) rfl ?_
  refine rhF.sub [1, 3, 0] rfl ?_
  exact (b_X12_search_11 rhFU) _ _ _ _
theorem c_X12_search (E : rhE) (Γ : rhG) (M : rhM) (v0 : Nat) (v1 : Int32) (v2 : Int32) : ∀ a, f_X12_search Γ M v0 v1 v2 = some a → rhC E 10 yX12_search cX12_search 4 (some .int) [rhR v0, rhI v1, rhI v2] Γ M ((rhe1I Γ) a) := rhF.met (by decide +kernel) (Nat.le_of_ble_eq_true rfl) (b_X12_search M v0 v1 v2)
def f_X12_free (Γ : rhG) (M : rhM) (v0 : Nat) (v1 : Int32) : Option (Int32 × rhM) :=
  rhck (Γ.2.2.1 v0 = 13) <|
  let M2 := rhsi M v0 66 0
  (f_X12_isHouse Γ M2 v0 v1).bind fun r3 =>
  if r3 = 0 then
    (some (((-1), M2)))
  else
    (f_X12_isMany Γ M2 v0).bind fun r5 =>
    if r5 = 0 then
      (let M7 := rhsi M2 v0 62 v1
      (f_X12_search Γ M7 v0 (1 : Int32) (246960 : Int32)).bind fun r8 =>
      let x9 := r8.1
      if x9 < 0 then
        (some (((-1), r8.2)))
      else
        (f_X12_layWay Γ r8.2 v0 x9).bind fun r11 =>
        some ((r11.1 v0 66, r11)))
    else
      some (((-2), M2))
set_option maxHeartbeats 4000000 in
set_option maxRecDepth 100000 in
theorem b_X12_free {E : rhE} {Γ : rhG} : ∀ (M : rhM) (v0 : Nat) (v1 : Int32), rhF E 11 3 yX12_free cX12_free (some .int) Γ (rhe1I Γ) (f_X12_free Γ M v0 v1) 0 [(0, rhR v0), (1, rhI v1)] [] Γ M := by
  intro M v0 v1
  rw [f_X12_free]
  refine rhF.aload_n (pc := 0) dX12_free_0 0 rfl ?_
  refine rhF.iconst (pc := 1) (v := 0) dX12_free_1 (by decide) ?_
  refine rhF.ck (fun h1 => ?_)
  refine rhF.puti (pc := 2) dX12_free_2 fl_X12_342 h1 (fun q hq => by cases hq; exact Or.inl rfl) ⟨rfl, rfl⟩ (fun _ => rfl) ?_
  refine rhF.aload_n (pc := 5) dX12_free_5 0 rfl ?_
  refine rhF.iload_n (pc := 6) dX12_free_6 1 rfl ?_
  refine rhF.callV (pc := 7) (ci := 12) (embc := rhe0I _ _) [rhI _] dX12_free_7 ml_X12_464 mv_X12_isHouse ⟨_, rfl, rfl⟩ h1 (c_X12_isHouse _ _ _ _ _) (by decide) (by decide) rfl (Nat.le_of_ble_eq_true rfl) (fun r3 _ => ?_)
  refine rhF.if_ne (pc := 10) 15 dX12_free_10 (by decide) (fun h4 => ?_) (fun h4 => ?_)
  · refine rhF.iconst (pc := 13) (v := (-1)) dX12_free_13 (by decide) ?_
    exact rhF.zret (pc := 14) dX12_free_14 rfl rfl rfl
  · refine rhF.aload_n (pc := 15) dX12_free_15 0 rfl ?_
    refine rhF.callV (pc := 16) (ci := 12) (embc := rhe0I _ _) [] dX12_free_16 ml_X12_515 mv_X12_isMany ⟨_, rfl, rfl⟩ h1 (c_X12_isMany _ _ _ _) (by decide) (by decide) rfl (Nat.le_of_ble_eq_true rfl) (fun r5 _ => ?_)
    refine rhF.if_eq (pc := 19) 25 dX12_free_19 (by decide) (fun h6 => ?_) (fun h6 => ?_)
    · refine rhF.aload_n (pc := 25) dX12_free_25 0 rfl ?_
      refine rhF.iload_n (pc := 26) dX12_free_26 1 rfl ?_
      refine rhF.puti (pc := 27) dX12_free_27 fl_X12_484 h1 (fun q hq => by cases hq; exact Or.inl rfl) ⟨rfl, rfl⟩ (fun _ => rfl) ?_
      refine rhF.aload_n (pc := 30) dX12_free_30 0 rfl ?_
      refine rhF.iconst (pc := 31) (v := 1) dX12_free_31 (by decide) ?_
      refine rhF.ldc (pc := 32) dX12_free_32 k_X12_122 ?_
      refine rhF.callV (pc := 34) (ci := 12) (embc := rhe1I _) [rhI _, rhI _] dX12_free_34 ml_X12_518 mv_X12_search ⟨_, rfl, rfl⟩ h1 (c_X12_search _ _ _ _ _ _) (by decide) (by decide) rfl (Nat.le_of_ble_eq_true rfl) (fun r8 _ => ?_)
      refine rhF.istore_n (pc := 37) (L' := [(2, rhI _), (0, rhR _), (1, rhI _)]) dX12_free_37 (by decide) rfl ?_
      refine rhF.iload_n (pc := 38) dX12_free_38 0 rfl ?_
      refine rhF.if_ge (pc := 39) 44 dX12_free_39 (by decide) (fun h10 => ?_) (fun h10 => ?_)
      · refine rhF.iconst (pc := 42) (v := (-1)) dX12_free_42 (by decide) ?_
        exact rhF.zret (pc := 43) dX12_free_43 rfl rfl rfl
      · refine rhF.aload_n (pc := 44) dX12_free_44 1 rfl ?_
        refine rhF.iload_n (pc := 45) dX12_free_45 0 rfl ?_
        refine rhF.callV (pc := 46) (ci := 12) (embc := rhe1U _) [rhI _] dX12_free_46 ml_X12_521 mv_X12_layWay ⟨_, rfl, rfl⟩ h1 (c_X12_layWay _ _ _ _ _) (by decide) (by decide) rfl (Nat.le_of_ble_eq_true rfl) (fun r11 _ => ?_)
        refine rhF.aload_n (pc := 49) dX12_free_49 1 rfl ?_
        refine rhF.get (pc := 50) (rhI _) dX12_free_50 fl_X12_342 h1 rfl ?_
        exact rhF.zret (pc := 53) dX12_free_53 rfl rfl rfl
    · refine rhF.bipush (pc := 22) (v := (-2)) dX12_free_22 (by decide) ?_
      exact rhF.zret (pc := 24) dX12_free_24 rfl rfl rfl
theorem c_X12_free (E : rhE) (Γ : rhG) (M : rhM) (v0 : Nat) (v1 : Int32) : ∀ a, f_X12_free Γ M v0 v1 = some a → rhC E 11 yX12_free cX12_free 3 (some .int) [rhR v0, rhI v1] Γ M ((rhe1I Γ) a) := rhF.met (by decide +kernel) (Nat.le_of_ble_eq_true rfl) (b_X12_free M v0 v1)
def f_X12_worthOfRow_4 (Γ : rhG) (M : rhM) : Nat → Nat → Int32 → Int32 → Option (Int32)
  | 0, _, _, _ => none
  | n + 1, v0, v1, v2 =>
    rhck (Γ.2.2.1 v0 = 13) <|
    (f_X12_railMany Γ M v0).bind fun r2 =>
    if 0 < r2 then
      (rhck (Γ.2.2.1 (M.2.2 v0 40) = 15) <|
      rhck (0 ≤ (0 : Int32).toInt ∧ (0 : Int32).toInt < (Γ.2.2.2 (M.2.2 v0 40) : Nat)) <|
      if v2 < (M.1 (M.2.2 v0 40) (0 : Int32).toNatClampNeg) then
        (rhck (Γ.2.2.1 (M.2.2 v0 39) = 15) <|
        rhck (0 ≤ (v2 - 1).toInt ∧ (v2 - 1).toInt < (Γ.2.2.2 (M.2.2 v0 39) : Nat)) <|
        rhck (0 ≤ (v2).toInt ∧ (v2).toInt < (Γ.2.2.2 (M.2.2 v0 39) : Nat)) <|
        rhck (Γ.2.2.1 (M.2.2 v0 22) = 15) <|
        rhck (0 ≤ (((64 * (M.1 v0 34)) + (8 * (M.1 (M.2.2 v0 39) (v2 - 1).toNatClampNeg))) + (M.1 (M.2.2 v0 39) v2.toNatClampNeg)).toInt ∧ (((64 * (M.1 v0 34)) + (8 * (M.1 (M.2.2 v0 39) (v2 - 1).toNatClampNeg))) + (M.1 (M.2.2 v0 39) v2.toNatClampNeg)).toInt < (Γ.2.2.2 (M.2.2 v0 22) : Nat)) <|
        let x12 := v1 + (M.1 (M.2.2 v0 22) (((64 * (M.1 v0 34)) + (8 * (M.1 (M.2.2 v0 39) (v2 - 1).toNatClampNeg))) + (M.1 (M.2.2 v0 39) v2.toNatClampNeg)).toNatClampNeg)
        let x13 : Int32 := v2 + 1
        f_X12_worthOfRow_4 Γ M n v0 x12 x13)
      else
        some v1)
    else
      some v1
def f_X12_worthOfRow (Γ : rhG) (M : rhM) (v0 : Nat) : Option (Int32) :=
  f_X12_worthOfRow_4 Γ M rhFU v0 0 1
set_option maxHeartbeats 4000000 in
set_option maxRecDepth 100000 in
theorem b_X12_worthOfRow_4 {E : rhE} {Γ : rhG} {M : rhM} : ∀ (n : Nat) (v0 : Nat) (v1 : Int32) (v2 : Int32), rhF E 5 3 yX12_worthOfRow cX12_worthOfRow (some .int) Γ (rhe0I Γ M) (f_X12_worthOfRow_4 Γ M n v0 v1 v2) 4 [(0, rhR v0), (1, rhI v1), (2, rhI v2)] [] Γ M := by
  intro n
  induction n with
  | zero => intro v0 v1 v2; rw [f_X12_worthOfRow_4]; exact rhF.nope
  | succ n ih =>
    intro v0 v1 v2
    rw [f_X12_worthOfRow_4]
    refine rhF.aload_n (pc := 4) dX12_worthOfRow_4 0 rfl ?_
    refine rhF.ck (fun h1 => ?_)
    refine rhF.callV (pc := 5) (ci := 12) (embc := rhe0I _ _) [] dX12_worthOfRow_5 ml_X12_412 mv_X12_railMany ⟨_, rfl, rfl⟩ h1 (c_X12_railMany _ _ _ _) (by decide) (by decide) rfl (Nat.le_of_ble_eq_true rfl) (fun r2 _ => ?_)
    refine rhF.if_le (pc := 8) 61 dX12_worthOfRow_8 (by decide) (fun h3 => ?_) (fun h3 => ?_)
    · refine rhF.iload_n (pc := 11) dX12_worthOfRow_11 2 rfl ?_
      refine rhF.aload_n (pc := 12) dX12_worthOfRow_12 0 rfl ?_
      refine rhF.get (pc := 13) (rhR _) dX12_worthOfRow_13 fl_X12_95 h1 rfl ?_
      refine rhF.iconst (pc := 16) (v := 0) dX12_worthOfRow_16 (by decide) ?_
      refine rhF.ck (fun h4 => ?_)
      refine rhF.ck (fun h5 => ?_)
      refine rhF.iald (pc := 17) dX12_worthOfRow_17 h4 h5 ?_
      refine rhF.icmp_ge (pc := 18) 61 dX12_worthOfRow_18 (by decide) (fun h6 => ?_) (fun h6 => ?_)
      · refine rhF.iload_n (pc := 21) dX12_worthOfRow_21 1 rfl ?_
        refine rhF.aload_n (pc := 22) dX12_worthOfRow_22 0 rfl ?_
        refine rhF.get (pc := 23) (rhR _) dX12_worthOfRow_23 fl_X12_54 h1 rfl ?_
        refine rhF.bipush (pc := 26) (v := 64) dX12_worthOfRow_26 (by decide) ?_
        refine rhF.aload_n (pc := 28) dX12_worthOfRow_28 0 rfl ?_
        refine rhF.get (pc := 29) (rhI _) dX12_worthOfRow_29 fl_X12_327 h1 rfl ?_
        refine rhF.imul (pc := 32) dX12_worthOfRow_32 ?_
        refine rhF.bipush (pc := 33) (v := 8) dX12_worthOfRow_33 (by decide) ?_
        refine rhF.aload_n (pc := 35) dX12_worthOfRow_35 0 rfl ?_
        refine rhF.get (pc := 36) (rhR _) dX12_worthOfRow_36 fl_X12_92 h1 rfl ?_
        refine rhF.iload_n (pc := 39) dX12_worthOfRow_39 2 rfl ?_
        refine rhF.iconst (pc := 40) (v := 1) dX12_worthOfRow_40 (by decide) ?_
        refine rhF.isub (pc := 41) dX12_worthOfRow_41 ?_
        refine rhF.ck (fun h7 => ?_)
        refine rhF.ck (fun h8 => ?_)
        refine rhF.iald (pc := 42) dX12_worthOfRow_42 h7 h8 ?_
        refine rhF.imul (pc := 43) dX12_worthOfRow_43 ?_
        refine rhF.iadd (pc := 44) dX12_worthOfRow_44 ?_
        refine rhF.aload_n (pc := 45) dX12_worthOfRow_45 0 rfl ?_
        refine rhF.get (pc := 46) (rhR _) dX12_worthOfRow_46 fl_X12_92 h1 rfl ?_
        refine rhF.iload_n (pc := 49) dX12_worthOfRow_49 2 rfl ?_
        refine rhF.ck (fun h9 => ?_)
        refine rhF.iald (pc := 50) dX12_worthOfRow_50 h7 h9 ?_
        refine rhF.iadd (pc := 51) dX12_worthOfRow_51 ?_
        refine rhF.ck (fun h10 => ?_)
        refine rhF.ck (fun h11 => ?_)
        refine rhF.iald (pc := 52) dX12_worthOfRow_52 h10 h11 ?_
        refine rhF.iadd (pc := 53) dX12_worthOfRow_53 ?_
        refine rhF.istore_n (pc := 54) (L' := [(1, rhI _), (0, rhR _), (2, rhI _)]) dX12_worthOfRow_54 (by decide) rfl ?_
        refine rhF.iinc (pc := 55) (L' := [(2, rhI _), (1, rhI _), (0, rhR _)]) dX12_worthOfRow_55 2 rfl rfl (by decide) rfl ?_
        refine rhF.goto (pc := 58) 4 dX12_worthOfRow_58 (by decide) ?_
        refine rhF.sub [2, 1, 0] rfl ?_
        exact ih _ _ _
      · refine rhF.iload_n (pc := 61) dX12_worthOfRow_61 1 rfl ?_
        exact rhF.zret (pc := 62) dX12_worthOfRow_62 rfl rfl rfl
    · refine rhF.iload_n (pc := 61) dX12_worthOfRow_61 1 rfl ?_
      exact rhF.zret (pc := 62) dX12_worthOfRow_62 rfl rfl rfl
set_option maxHeartbeats 4000000 in
set_option maxRecDepth 100000 in
theorem b_X12_worthOfRow {E : rhE} {Γ : rhG} {M : rhM} : ∀ (v0 : Nat), rhF E 5 3 yX12_worthOfRow cX12_worthOfRow (some .int) Γ (rhe0I Γ M) (f_X12_worthOfRow Γ M v0) 0 [(0, rhR v0)] [] Γ M := by
  intro v0
  rw [f_X12_worthOfRow]
  refine rhF.iconst (pc := 0) (v := 0) dX12_worthOfRow_0 (by decide) ?_
  refine rhF.istore_n (pc := 1) (L' := [(1, rhI _), (0, rhR _)]) dX12_worthOfRow_1 (by decide) rfl ?_
  refine rhF.iconst (pc := 2) (v := 1) dX12_worthOfRow_2 (by decide) ?_
  refine rhF.istore_n (pc := 3) (L' := [(2, rhI _), (1, rhI _), (0, rhR _)]) dX12_worthOfRow_3 (by decide) rfl ?_
  refine rhF.sub [2, 1, 0] rfl ?_
  exact (b_X12_worthOfRow_4 rhFU) _ _ _
theorem c_X12_worthOfRow (E : rhE) (Γ : rhG) (M : rhM) (v0 : Nat) : ∀ a, f_X12_worthOfRow Γ M v0 = some a → rhC E 5 yX12_worthOfRow cX12_worthOfRow 3 (some .int) [rhR v0] Γ M ((rhe0I Γ M) a) := rhF.met (by decide +kernel) (Nat.le_of_ble_eq_true rfl) (b_X12_worthOfRow v0)
def f_X12_judge_21 (k78 : rhM → Nat → Int32 → Int32 → Int32 → Option (Int32 × rhM)) (k131 : rhM → Nat → Int32 → Int32 → Option (Int32 × rhM)) (Γ : rhG) : Nat → rhM → Nat → Int32 → Int32 → Int32 → Option (Int32 × rhM)
  | 0, _, _, _, _, _ => none
  | n + 1, M, v0, v1, v2, v3 =>
    rhck (Γ.2.2.1 v0 = 13) <|
    if v3 < (M.1 v0 51) then
      (rhck (Γ.2.2.1 (M.2.2 v0 50) = 15) <|
      rhck (0 ≤ (v3).toInt ∧ (v3).toInt < (Γ.2.2.2 (M.2.2 v0 50) : Nat)) <|
      let x9 := (M.1 (M.2.2 v0 50) v3.toNatClampNeg) / 100
      let x10 := ((M.1 (M.2.2 v0 50) v3.toNatClampNeg) / 10) - ((M.1 (M.2.2 v0 50) v3.toNatClampNeg) / 10) / 10 * 10
      let x11 := (M.1 (M.2.2 v0 50) v3.toNatClampNeg) - (M.1 (M.2.2 v0 50) v3.toNatClampNeg) / 10 * 10
      (f_X12_isLawful Γ M v0 x9 x10 x11).bind fun r12 =>
      if r12.1 = 0 then
        (k78 r12.2 v0 v1 v2 v3)
      else
        (f_X12_sumOf Γ r12.2 v0 (r12.2.2.2 v0 20) x9 x10).bind fun r14 =>
        let x15 := v2 + r14
        (f_X12_moves Γ r12.2 v0 x9 x10 x11).bind fun r16 =>
        let x17 : Int32 := v3 + 1
        f_X12_judge_21 k78 k131 Γ n r16 v0 v1 x15 x17)
    else
      k131 M v0 v1 v2
def f_X12_judge_78 (Γ : rhG) (M : rhM) (v0 : Nat) (v1 : Int32) (v2 : Int32) (v3 : Int32) : Option (Int32 × rhM) :=
  if v1 = 0 then
    (some ((v3, M)))
  else
    if v1 = 1 then
      (some ((v2, M)))
    else
      rhck (Γ.2.2.1 v0 = 13) <|
      (f_X12_worthOfRow Γ M v0).bind fun r21 =>
      some ((r21, M))
def f_X12_judge_131 (Γ : rhG) (M : rhM) (v0 : Nat) (v1 : Int32) (v2 : Int32) : Option (Int32 × rhM) :=
  if v1 = 0 then
    (some (((-1), M)))
  else
    if v1 = 1 then
      (some ((v2, M)))
    else
      rhck (Γ.2.2.1 v0 = 13) <|
      (f_X12_worthOfRow Γ M v0).bind fun r25 =>
      some ((r25, M))
def f_X12_judge (Γ : rhG) (M : rhM) (v0 : Nat) (v1 : Int32) : Option (Int32 × rhM) :=
  (f_X12_isIn Γ M v1 (0 : Int32) (2 : Int32)).bind fun r1 =>
  if r1 = 0 then
    (some (((-1000000), M)))
  else
    rhck (Γ.2.2.1 v0 = 13) <|
    (f_X12_layNow Γ M v0).bind fun r4 =>
    f_X12_judge_21 (f_X12_judge_78 Γ) (f_X12_judge_131 Γ) Γ rhFU r4 v0 v1 0 0
set_option maxHeartbeats 4000000 in
set_option maxRecDepth 100000 in
theorem b_X12_judge_21 {E : rhE} {Γ : rhG} {k78 : rhM → Nat → Int32 → Int32 → Int32 → Option (Int32 × rhM)} {k131 : rhM → Nat → Int32 → Int32 → Option (Int32 × rhM)} (hk78 : ∀ (M : rhM) (v0 : Nat) (v1 : Int32) (v2 : Int32) (v3 : Int32), rhF E 9 7 yX12_judge cX12_judge (some .int) Γ (rhe1I Γ) (k78 M v0 v1 v2 v3) 78 [(0, rhR v0), (1, rhI v1), (2, rhI v2), (3, rhI v3)] [] Γ M) (hk131 : ∀ (M : rhM) (v0 : Nat) (v1 : Int32) (v2 : Int32), rhF E 9 7 yX12_judge cX12_judge (some .int) Γ (rhe1I Γ) (k131 M v0 v1 v2) 131 [(0, rhR v0), (1, rhI v1), (2, rhI v2)] [] Γ M) : ∀ (n : Nat) (M : rhM) (v0 : Nat) (v1 : Int32) (v2 : Int32) (v3 : Int32), rhF E 9 7 yX12_judge cX12_judge (some .int) Γ (rhe1I Γ) (f_X12_judge_21 k78 k131 Γ n M v0 v1 v2 v3) 21 [(0, rhR v0), (1, rhI v1), (2, rhI v2), (3, rhI v3)] [] Γ M := by
  intro n
  induction n with
  | zero => intro M v0 v1 v2 v3; rw [f_X12_judge_21]; exact rhF.nope
  | succ n ih =>
    intro M v0 v1 v2 v3
    rw [f_X12_judge_21]
    refine rhF.iload_n (pc := 21) dX12_judge_21 3 rfl ?_
    refine rhF.aload_n (pc := 22) dX12_judge_22 0 rfl ?_
    refine rhF.ck (fun h5 => ?_)
    refine rhF.get (pc := 23) (rhI _) dX12_judge_23 fl_X12_336 h5 rfl ?_
    refine rhF.icmp_ge (pc := 26) 131 dX12_judge_26 (by decide) (fun h6 => ?_) (fun h6 => ?_)
    · refine rhF.aload_n (pc := 29) dX12_judge_29 0 rfl ?_
      refine rhF.get (pc := 30) (rhR _) dX12_judge_30 fl_X12_116 h5 rfl ?_
      refine rhF.iload_n (pc := 33) dX12_judge_33 3 rfl ?_
      refine rhF.ck (fun h7 => ?_)
      refine rhF.ck (fun h8 => ?_)
      refine rhF.iald (pc := 34) dX12_judge_34 h7 h8 ?_
      refine rhF.bipush (pc := 35) (v := 100) dX12_judge_35 (by decide) ?_
      refine rhF.idivc (pc := 37) dX12_judge_37 (by decide) ?_
      refine rhF.istore (pc := 38) (L' := [(4, rhI _), (0, rhR _), (1, rhI _), (2, rhI _), (3, rhI _)]) dX12_judge_38 (by decide) rfl ?_
      refine rhF.aload_n (pc := 40) dX12_judge_40 1 rfl ?_
      refine rhF.get (pc := 41) (rhR _) dX12_judge_41 fl_X12_116 h5 rfl ?_
      refine rhF.iload_n (pc := 44) dX12_judge_44 4 rfl ?_
      refine rhF.iald (pc := 45) dX12_judge_45 h7 h8 ?_
      refine rhF.bipush (pc := 46) (v := 10) dX12_judge_46 (by decide) ?_
      refine rhF.idivc (pc := 48) dX12_judge_48 (by decide) ?_
      refine rhF.bipush (pc := 49) (v := 10) dX12_judge_49 (by decide) ?_
      refine rhF.iremc (pc := 51) dX12_judge_51 (by decide) ?_
      refine rhF.istore (pc := 52) (L' := [(5, rhI _), (4, rhI _), (0, rhR _), (1, rhI _), (2, rhI _), (3, rhI _)]) dX12_judge_52 (by decide) rfl ?_
      refine rhF.aload_n (pc := 54) dX12_judge_54 2 rfl ?_
      refine rhF.get (pc := 55) (rhR _) dX12_judge_55 fl_X12_116 h5 rfl ?_
      refine rhF.iload_n (pc := 58) dX12_judge_58 5 rfl ?_
      refine rhF.iald (pc := 59) dX12_judge_59 h7 h8 ?_
      refine rhF.bipush (pc := 60) (v := 10) dX12_judge_60 (by decide) ?_
      refine rhF.iremc (pc := 62) dX12_judge_62 (by decide) ?_
      refine rhF.istore (pc := 63) (L' := [(6, rhI _), (5, rhI _), (4, rhI _), (0, rhR _), (1, rhI _), (2, rhI _), (3, rhI _)]) dX12_judge_63 (by decide) rfl ?_
      refine rhF.aload_n (pc := 65) dX12_judge_65 3 rfl ?_
      refine rhF.iload (pc := 66) dX12_judge_66 2 rfl ?_
      refine rhF.iload (pc := 68) dX12_judge_68 1 rfl ?_
      refine rhF.iload (pc := 70) dX12_judge_70 0 rfl ?_
      refine rhF.callV (pc := 72) (ci := 12) (embc := rhe1I _) [rhI _, rhI _, rhI _] dX12_judge_72 ml_X12_471 mv_X12_isLawful ⟨_, rfl, rfl⟩ h5 (c_X12_isLawful _ _ _ _ _ _ _) (by decide) (by decide) rfl (Nat.le_of_ble_eq_true rfl) (fun r12 _ => ?_)
      refine rhF.if_ne (pc := 75) 100 dX12_judge_75 (by decide) (fun h13 => ?_) (fun h13 => ?_)
      · refine rhF.sub [3, 4, 5, 6] rfl ?_
        exact hk78 _ _ _ _ _
      · refine rhF.iload_n (pc := 100) dX12_judge_100 5 rfl ?_
        refine rhF.aload_n (pc := 101) dX12_judge_101 3 rfl ?_
        refine rhF.aload_n (pc := 102) dX12_judge_102 3 rfl ?_
        refine rhF.get (pc := 103) (rhR _) dX12_judge_103 fl_X12_48 h5 rfl ?_
        refine rhF.iload (pc := 106) dX12_judge_106 2 rfl ?_
        refine rhF.iload (pc := 108) dX12_judge_108 1 rfl ?_
        refine rhF.callV (pc := 110) (ci := 12) (embc := rhe0I _ _) [rhR _, rhI _, rhI _] dX12_judge_110 ml_X12_431 mv_X12_sumOf ⟨_, rfl, rfl⟩ h5 (c_X12_sumOf _ _ _ _ _ _ _) (by decide) (by decide) rfl (Nat.le_of_ble_eq_true rfl) (fun r14 _ => ?_)
        refine rhF.iadd (pc := 113) dX12_judge_113 ?_
        refine rhF.istore_n (pc := 114) (L' := [(2, rhI _), (6, rhI _), (5, rhI _), (4, rhI _), (0, rhR _), (1, rhI _), (3, rhI _)]) dX12_judge_114 (by decide) rfl ?_
        refine rhF.aload_n (pc := 115) dX12_judge_115 4 rfl ?_
        refine rhF.iload (pc := 116) dX12_judge_116 3 rfl ?_
        refine rhF.iload (pc := 118) dX12_judge_118 2 rfl ?_
        refine rhF.iload (pc := 120) dX12_judge_120 1 rfl ?_
        refine rhF.callV (pc := 122) (ci := 12) (embc := rhe1U _) [rhI _, rhI _, rhI _] dX12_judge_122 ml_X12_474 mv_X12_moves ⟨_, rfl, rfl⟩ h5 (c_X12_moves _ _ _ _ _ _ _) (by decide) (by decide) rfl (Nat.le_of_ble_eq_true rfl) (fun r16 _ => ?_)
        refine rhF.iinc (pc := 125) (L' := [(3, rhI _), (2, rhI _), (6, rhI _), (5, rhI _), (4, rhI _), (0, rhR _), (1, rhI _)]) dX12_judge_125 6 rfl rfl (by decide) rfl ?_
        refine rhF.goto (pc := 128) 21 dX12_judge_128 (by decide) ?_
        refine rhF.sub [5, 6, 1, 0] rfl ?_
        exact ih _ _ _ _ _
    · refine rhF.sub [0, 1, 2] rfl ?_
      exact hk131 _ _ _ _
set_option maxHeartbeats 4000000 in
set_option maxRecDepth 100000 in
theorem b_X12_judge_78 {E : rhE} {Γ : rhG} : ∀ (M : rhM) (v0 : Nat) (v1 : Int32) (v2 : Int32) (v3 : Int32), rhF E 9 7 yX12_judge cX12_judge (some .int) Γ (rhe1I Γ) (f_X12_judge_78 Γ M v0 v1 v2 v3) 78 [(0, rhR v0), (1, rhI v1), (2, rhI v2), (3, rhI v3)] [] Γ M := by
  intro M v0 v1 v2 v3
  rw [f_X12_judge_78]
  refine rhF.iload_n (pc := 78) dX12_judge_78 1 rfl ?_
  refine rhF.if_ne (pc := 79) 86 dX12_judge_79 (by decide) (fun h18 => ?_) (fun h18 => ?_)
  · refine rhF.iload_n (pc := 82) dX12_judge_82 3 rfl ?_
    refine rhF.goto (pc := 83) 99 dX12_judge_83 (by decide) ?_
    exact rhF.zret (pc := 99) dX12_judge_99 rfl rfl rfl
  · refine rhF.iload_n (pc := 86) dX12_judge_86 1 rfl ?_
    refine rhF.iconst (pc := 87) (v := 1) dX12_judge_87 (by decide) ?_
    refine rhF.icmp_ne (pc := 88) 95 dX12_judge_88 (by decide) (fun h19 => ?_) (fun h19 => ?_)
    · refine rhF.iload_n (pc := 91) dX12_judge_91 2 rfl ?_
      refine rhF.goto (pc := 92) 99 dX12_judge_92 (by decide) ?_
      exact rhF.zret (pc := 99) dX12_judge_99 rfl rfl rfl
    · refine rhF.aload_n (pc := 95) dX12_judge_95 0 rfl ?_
      refine rhF.ck (fun h20 => ?_)
      refine rhF.callV (pc := 96) (ci := 12) (embc := rhe0I _ _) [] dX12_judge_96 ml_X12_478 mv_X12_worthOfRow ⟨_, rfl, rfl⟩ h20 (c_X12_worthOfRow _ _ _ _) (by decide) (by decide) rfl (Nat.le_of_ble_eq_true rfl) (fun r21 _ => ?_)
      exact rhF.zret (pc := 99) dX12_judge_99 rfl rfl rfl
set_option maxHeartbeats 4000000 in
set_option maxRecDepth 100000 in
theorem b_X12_judge_131 {E : rhE} {Γ : rhG} : ∀ (M : rhM) (v0 : Nat) (v1 : Int32) (v2 : Int32), rhF E 9 7 yX12_judge cX12_judge (some .int) Γ (rhe1I Γ) (f_X12_judge_131 Γ M v0 v1 v2) 131 [(0, rhR v0), (1, rhI v1), (2, rhI v2)] [] Γ M := by
  intro M v0 v1 v2
  rw [f_X12_judge_131]
  refine rhF.iload_n (pc := 131) dX12_judge_131 1 rfl ?_
  refine rhF.if_ne (pc := 132) 139 dX12_judge_132 (by decide) (fun h22 => ?_) (fun h22 => ?_)
  · refine rhF.iconst (pc := 135) (v := (-1)) dX12_judge_135 (by decide) ?_
    refine rhF.goto (pc := 136) 152 dX12_judge_136 (by decide) ?_
    exact rhF.zret (pc := 152) dX12_judge_152 rfl rfl rfl
  · refine rhF.iload_n (pc := 139) dX12_judge_139 1 rfl ?_
    refine rhF.iconst (pc := 140) (v := 1) dX12_judge_140 (by decide) ?_
    refine rhF.icmp_ne (pc := 141) 148 dX12_judge_141 (by decide) (fun h23 => ?_) (fun h23 => ?_)
    · refine rhF.iload_n (pc := 144) dX12_judge_144 2 rfl ?_
      refine rhF.goto (pc := 145) 152 dX12_judge_145 (by decide) ?_
      exact rhF.zret (pc := 152) dX12_judge_152 rfl rfl rfl
    · refine rhF.aload_n (pc := 148) dX12_judge_148 0 rfl ?_
      refine rhF.ck (fun h24 => ?_)
      refine rhF.callV (pc := 149) (ci := 12) (embc := rhe0I _ _) [] dX12_judge_149 ml_X12_478 mv_X12_worthOfRow ⟨_, rfl, rfl⟩ h24 (c_X12_worthOfRow _ _ _ _) (by decide) (by decide) rfl (Nat.le_of_ble_eq_true rfl) (fun r25 _ => ?_)
      exact rhF.zret (pc := 152) dX12_judge_152 rfl rfl rfl
set_option maxHeartbeats 4000000 in
set_option maxRecDepth 100000 in
theorem b_X12_judge {E : rhE} {Γ : rhG} : ∀ (M : rhM) (v0 : Nat) (v1 : Int32), rhF E 9 7 yX12_judge cX12_judge (some .int) Γ (rhe1I Γ) (f_X12_judge Γ M v0 v1) 0 [(0, rhR v0), (1, rhI v1)] [] Γ M := by
  intro M v0 v1
  rw [f_X12_judge]
  refine rhF.iload_n (pc := 0) dX12_judge_0 1 rfl ?_
  refine rhF.iconst (pc := 1) (v := 0) dX12_judge_1 (by decide) ?_
  refine rhF.iconst (pc := 2) (v := 2) dX12_judge_2 (by decide) ?_
  refine rhF.callS (pc := 3) (embc := rhe0I _ _) [rhI _, rhI _, rhI _] dX12_judge_3 ml_X12_415 ms_X12_isIn (c_X12_isIn _ _ _ _ _ _) (by decide) (by decide) rfl (Nat.le_of_ble_eq_true rfl) (fun r1 _ => ?_)
  refine rhF.if_ne (pc := 6) 13 dX12_judge_6 (by decide) (fun h2 => ?_) (fun h2 => ?_)
  · refine rhF.ldcw (pc := 9) dX12_judge_9 k_X12_470 ?_
    exact rhF.zret (pc := 12) dX12_judge_12 rfl rfl rfl
  · refine rhF.aload_n (pc := 13) dX12_judge_13 0 rfl ?_
    refine rhF.ck (fun h3 => ?_)
    refine rhF.callV (pc := 14) (ci := 12) (embc := rhe1U _) [] dX12_judge_14 ml_X12_467 mv_X12_layNow ⟨_, rfl, rfl⟩ h3 (c_X12_layNow _ _ _ _) (by decide) (by decide) rfl (Nat.le_of_ble_eq_true rfl) (fun r4 _ => ?_)
    refine rhF.iconst (pc := 17) (v := 0) dX12_judge_17 (by decide) ?_
    refine rhF.istore_n (pc := 18) (L' := [(2, rhI _), (0, rhR _), (1, rhI _)]) dX12_judge_18 (by decide) rfl ?_
    refine rhF.iconst (pc := 19) (v := 0) dX12_judge_19 (by decide) ?_
    refine rhF.istore_n (pc := 20) (L' := [(3, rhI _), (2, rhI _), (0, rhR _), (1, rhI _)]) dX12_judge_20 (by decide) rfl ?_
    refine rhF.sub [2, 3, 1, 0] rfl ?_
    exact (b_X12_judge_21 (b_X12_judge_78) (b_X12_judge_131) rhFU) _ _ _ _ _
theorem c_X12_judge (E : rhE) (Γ : rhG) (M : rhM) (v0 : Nat) (v1 : Int32) : ∀ a, f_X12_judge Γ M v0 v1 = some a → rhC E 9 yX12_judge cX12_judge 7 (some .int) [rhR v0, rhI v1] Γ M ((rhe1I Γ) a) := rhF.met (by decide +kernel) (Nat.le_of_ble_eq_true rfl) (b_X12_judge M v0 v1)
def f_X12_undo_36 (k118 : rhM → Nat → Int32 → Option (Int32 × rhM)) (Γ : rhG) : Nat → rhM → Nat → Int32 → Int32 → Option (Int32 × rhM)
  | 0, _, _, _, _ => none
  | n + 1, M, v0, v2, v3 =>
    if v3 < v2 then
      (rhck (Γ.2.2.1 v0 = 13) <|
      let M9 := rhsi M v0 48 ((M.1 v0 48) - 1)
      rhck (Γ.2.2.1 (M.2.2 v0 47) = 15) <|
      rhck (0 ≤ (M9.1 v0 48).toInt ∧ (M9.1 v0 48).toInt < (Γ.2.2.2 (M.2.2 v0 47) : Nat)) <|
      let M12 := rhsi M9 v0 49 ((M9.1 v0 49) - (M9.1 (M.2.2 v0 47) (M9.1 v0 48).toNatClampNeg))
      rhck (Γ.2.2.1 (M.2.2 v0 46) = 15) <|
      rhck (0 ≤ (M12.1 v0 48).toInt ∧ (M12.1 v0 48).toInt < (Γ.2.2.2 (M.2.2 v0 46) : Nat)) <|
      (f_X12_moves Γ M12 v0 ((M12.1 (M.2.2 v0 46) (M12.1 v0 48).toNatClampNeg) - (M12.1 (M.2.2 v0 46) (M12.1 v0 48).toNatClampNeg) / 10 * 10) (((M12.1 (M.2.2 v0 46) (M12.1 v0 48).toNatClampNeg) / 10) - ((M12.1 (M.2.2 v0 46) (M12.1 v0 48).toNatClampNeg) / 10) / 10 * 10) ((M12.1 (M.2.2 v0 46) (M12.1 v0 48).toNatClampNeg) / 100)).bind fun r15 =>
      let x16 : Int32 := v3 + 1
      f_X12_undo_36 k118 Γ n r15 v0 v2 x16)
    else
      k118 M v0 v2
def f_X12_undo_118 (Γ : rhG) (M : rhM) (v0 : Nat) (v2 : Int32) : Option (Int32 × rhM) :=
  rhck (Γ.2.2.1 v0 = 13) <|
  (f_X12_keepNow Γ M v0).bind fun r18 =>
  some ((v2, r18))
def f_X12_undo_29 (Γ : rhG) (M : rhM) (v0 : Nat) (s0 : Int32) : Option (Int32 × rhM) :=
  rhck (Γ.2.2.1 v0 = 13) <|
  (f_X12_layNow Γ M v0).bind fun r6 =>
  f_X12_undo_36 (f_X12_undo_118 Γ) Γ rhFU r6 v0 s0 0
def f_X12_undo (Γ : rhG) (M : rhM) (v0 : Nat) (v1 : Int32) : Option (Int32 × rhM) :=
  (f_X12_isIn Γ M v1 (0 : Int32) (300 : Int32)).bind fun r1 =>
  if r1 = 0 then
    (some (((-1), M)))
  else
    rhck (Γ.2.2.1 v0 = 13) <|
    if v1 < (M.1 v0 48) then
      (f_X12_undo_29 Γ M v0 v1)
    else
      f_X12_undo_29 Γ M v0 (M.1 v0 48)
set_option maxHeartbeats 4000000 in
set_option maxRecDepth 100000 in
theorem b_X12_undo_36 {E : rhE} {Γ : rhG} {k118 : rhM → Nat → Int32 → Option (Int32 × rhM)} (hk118 : ∀ (M : rhM) (v0 : Nat) (v2 : Int32), rhF E 5 4 yX12_undo cX12_undo (some .int) Γ (rhe1I Γ) (k118 M v0 v2) 118 [(0, rhR v0), (2, rhI v2)] [] Γ M) : ∀ (n : Nat) (M : rhM) (v0 : Nat) (v2 : Int32) (v3 : Int32), rhF E 5 4 yX12_undo cX12_undo (some .int) Γ (rhe1I Γ) (f_X12_undo_36 k118 Γ n M v0 v2 v3) 36 [(0, rhR v0), (2, rhI v2), (3, rhI v3)] [] Γ M := by
  intro n
  induction n with
  | zero => intro M v0 v2 v3; rw [f_X12_undo_36]; exact rhF.nope
  | succ n ih =>
    intro M v0 v2 v3
    rw [f_X12_undo_36]
    refine rhF.iload_n (pc := 36) dX12_undo_36 2 rfl ?_
    refine rhF.iload_n (pc := 37) dX12_undo_37 1 rfl ?_
    refine rhF.icmp_ge (pc := 38) 118 dX12_undo_38 (by decide) (fun h7 => ?_) (fun h7 => ?_)
    · refine rhF.aload_n (pc := 41) dX12_undo_41 0 rfl ?_
      refine rhF.dupr (pc := 42) dX12_undo_42 ?_
      refine rhF.ck (fun h8 => ?_)
      refine rhF.get (pc := 43) (rhI _) dX12_undo_43 fl_X12_458 h8 rfl ?_
      refine rhF.iconst (pc := 46) (v := 1) dX12_undo_46 (by decide) ?_
      refine rhF.isub (pc := 47) dX12_undo_47 ?_
      refine rhF.puti (pc := 48) dX12_undo_48 fl_X12_458 h8 (fun q hq => by cases hq; exact Or.inl rfl) ⟨rfl, rfl⟩ (fun _ => rfl) ?_
      refine rhF.aload_n (pc := 51) dX12_undo_51 0 rfl ?_
      refine rhF.dupr (pc := 52) dX12_undo_52 ?_
      refine rhF.get (pc := 53) (rhI _) dX12_undo_53 fl_X12_461 h8 rfl ?_
      refine rhF.aload_n (pc := 56) dX12_undo_56 0 rfl ?_
      refine rhF.get (pc := 57) (rhR _) dX12_undo_57 fl_X12_113 h8 rfl ?_
      refine rhF.aload_n (pc := 60) dX12_undo_60 0 rfl ?_
      refine rhF.get (pc := 61) (rhI _) dX12_undo_61 fl_X12_458 h8 rfl ?_
      refine rhF.ck (fun h10 => ?_)
      refine rhF.ck (fun h11 => ?_)
      refine rhF.iald (pc := 64) dX12_undo_64 h10 h11 ?_
      refine rhF.isub (pc := 65) dX12_undo_65 ?_
      refine rhF.puti (pc := 66) dX12_undo_66 fl_X12_461 h8 (fun q hq => by cases hq; exact Or.inl rfl) ⟨rfl, rfl⟩ (fun _ => rfl) ?_
      refine rhF.aload_n (pc := 69) dX12_undo_69 0 rfl ?_
      refine rhF.aload_n (pc := 70) dX12_undo_70 0 rfl ?_
      refine rhF.get (pc := 71) (rhR _) dX12_undo_71 fl_X12_110 h8 rfl ?_
      refine rhF.aload_n (pc := 74) dX12_undo_74 0 rfl ?_
      refine rhF.get (pc := 75) (rhI _) dX12_undo_75 fl_X12_458 h8 rfl ?_
      refine rhF.ck (fun h13 => ?_)
      refine rhF.ck (fun h14 => ?_)
      refine rhF.iald (pc := 78) dX12_undo_78 h13 h14 ?_
      refine rhF.bipush (pc := 79) (v := 10) dX12_undo_79 (by decide) ?_
      refine rhF.iremc (pc := 81) dX12_undo_81 (by decide) ?_
      refine rhF.aload_n (pc := 82) dX12_undo_82 0 rfl ?_
      refine rhF.get (pc := 83) (rhR _) dX12_undo_83 fl_X12_110 h8 rfl ?_
      refine rhF.aload_n (pc := 86) dX12_undo_86 0 rfl ?_
      refine rhF.get (pc := 87) (rhI _) dX12_undo_87 fl_X12_458 h8 rfl ?_
      refine rhF.iald (pc := 90) dX12_undo_90 h13 h14 ?_
      refine rhF.bipush (pc := 91) (v := 10) dX12_undo_91 (by decide) ?_
      refine rhF.idivc (pc := 93) dX12_undo_93 (by decide) ?_
      refine rhF.bipush (pc := 94) (v := 10) dX12_undo_94 (by decide) ?_
      refine rhF.iremc (pc := 96) dX12_undo_96 (by decide) ?_
      refine rhF.aload_n (pc := 97) dX12_undo_97 0 rfl ?_
      refine rhF.get (pc := 98) (rhR _) dX12_undo_98 fl_X12_110 h8 rfl ?_
      refine rhF.aload_n (pc := 101) dX12_undo_101 0 rfl ?_
      refine rhF.get (pc := 102) (rhI _) dX12_undo_102 fl_X12_458 h8 rfl ?_
      refine rhF.iald (pc := 105) dX12_undo_105 h13 h14 ?_
      refine rhF.bipush (pc := 106) (v := 100) dX12_undo_106 (by decide) ?_
      refine rhF.idivc (pc := 108) dX12_undo_108 (by decide) ?_
      refine rhF.callV (pc := 109) (ci := 12) (embc := rhe1U _) [rhI _, rhI _, rhI _] dX12_undo_109 ml_X12_474 mv_X12_moves ⟨_, rfl, rfl⟩ h8 (c_X12_moves _ _ _ _ _ _ _) (by decide) (by decide) rfl (Nat.le_of_ble_eq_true rfl) (fun r15 _ => ?_)
      refine rhF.iinc (pc := 112) (L' := [(3, rhI _), (0, rhR _), (2, rhI _)]) dX12_undo_112 2 rfl rfl (by decide) rfl ?_
      refine rhF.goto (pc := 115) 36 dX12_undo_115 (by decide) ?_
      refine rhF.sub [1, 2, 0] rfl ?_
      exact ih _ _ _ _
    · refine rhF.sub [0, 1] rfl ?_
      exact hk118 _ _ _
set_option maxHeartbeats 4000000 in
set_option maxRecDepth 100000 in
theorem b_X12_undo_118 {E : rhE} {Γ : rhG} : ∀ (M : rhM) (v0 : Nat) (v2 : Int32), rhF E 5 4 yX12_undo cX12_undo (some .int) Γ (rhe1I Γ) (f_X12_undo_118 Γ M v0 v2) 118 [(0, rhR v0), (2, rhI v2)] [] Γ M := by
  intro M v0 v2
  rw [f_X12_undo_118]
  refine rhF.aload_n (pc := 118) dX12_undo_118 0 rfl ?_
  refine rhF.ck (fun h17 => ?_)
  refine rhF.callV (pc := 119) (ci := 12) (embc := rhe1U _) [] dX12_undo_119 ml_X12_455 mv_X12_keepNow ⟨_, rfl, rfl⟩ h17 (c_X12_keepNow _ _ _ _) (by decide) (by decide) rfl (Nat.le_of_ble_eq_true rfl) (fun r18 _ => ?_)
  refine rhF.iload_n (pc := 122) dX12_undo_122 1 rfl ?_
  exact rhF.zret (pc := 123) dX12_undo_123 rfl rfl rfl
set_option maxHeartbeats 4000000 in
set_option maxRecDepth 100000 in
theorem b_X12_undo_29 {E : rhE} {Γ : rhG} : ∀ (M : rhM) (v0 : Nat) (s0 : Int32), rhF E 5 4 yX12_undo cX12_undo (some .int) Γ (rhe1I Γ) (f_X12_undo_29 Γ M v0 s0) 29 [(0, rhR v0)] [rhI s0] Γ M := by
  intro M v0 s0
  rw [f_X12_undo_29]
  refine rhF.istore_n (pc := 29) (L' := [(2, rhI _), (0, rhR _)]) dX12_undo_29 (by decide) rfl ?_
  refine rhF.aload_n (pc := 30) dX12_undo_30 1 rfl ?_
  refine rhF.ck (fun h5 => ?_)
  refine rhF.callV (pc := 31) (ci := 12) (embc := rhe1U _) [] dX12_undo_31 ml_X12_467 mv_X12_layNow ⟨_, rfl, rfl⟩ h5 (c_X12_layNow _ _ _ _) (by decide) (by decide) rfl (Nat.le_of_ble_eq_true rfl) (fun r6 _ => ?_)
  refine rhF.iconst (pc := 34) (v := 0) dX12_undo_34 (by decide) ?_
  refine rhF.istore_n (pc := 35) (L' := [(3, rhI _), (2, rhI _), (0, rhR _)]) dX12_undo_35 (by decide) rfl ?_
  refine rhF.sub [2, 1, 0] rfl ?_
  exact (b_X12_undo_36 (b_X12_undo_118) rhFU) _ _ _ _
set_option maxHeartbeats 4000000 in
set_option maxRecDepth 100000 in
theorem b_X12_undo {E : rhE} {Γ : rhG} : ∀ (M : rhM) (v0 : Nat) (v1 : Int32), rhF E 5 4 yX12_undo cX12_undo (some .int) Γ (rhe1I Γ) (f_X12_undo Γ M v0 v1) 0 [(0, rhR v0), (1, rhI v1)] [] Γ M := by
  intro M v0 v1
  rw [f_X12_undo]
  refine rhF.iload_n (pc := 0) dX12_undo_0 1 rfl ?_
  refine rhF.iconst (pc := 1) (v := 0) dX12_undo_1 (by decide) ?_
  refine rhF.sipush (pc := 2) (v := 300) dX12_undo_2 (by decide) ?_
  refine rhF.callS (pc := 5) (embc := rhe0I _ _) [rhI _, rhI _, rhI _] dX12_undo_5 ml_X12_415 ms_X12_isIn (c_X12_isIn _ _ _ _ _ _) (by decide) (by decide) rfl (Nat.le_of_ble_eq_true rfl) (fun r1 _ => ?_)
  refine rhF.if_ne (pc := 8) 13 dX12_undo_8 (by decide) (fun h2 => ?_) (fun h2 => ?_)
  · refine rhF.iconst (pc := 11) (v := (-1)) dX12_undo_11 (by decide) ?_
    exact rhF.zret (pc := 12) dX12_undo_12 rfl rfl rfl
  · refine rhF.iload_n (pc := 13) dX12_undo_13 1 rfl ?_
    refine rhF.aload_n (pc := 14) dX12_undo_14 0 rfl ?_
    refine rhF.ck (fun h3 => ?_)
    refine rhF.get (pc := 15) (rhI _) dX12_undo_15 fl_X12_458 h3 rfl ?_
    refine rhF.icmp_ge (pc := 18) 25 dX12_undo_18 (by decide) (fun h4 => ?_) (fun h4 => ?_)
    · refine rhF.iload_n (pc := 21) dX12_undo_21 1 rfl ?_
      refine rhF.goto (pc := 22) 29 dX12_undo_22 (by decide) ?_
      refine rhF.sub [0] rfl ?_
      exact (b_X12_undo_29) _ _ _
    · refine rhF.aload_n (pc := 25) dX12_undo_25 0 rfl ?_
      refine rhF.get (pc := 26) (rhI _) dX12_undo_26 fl_X12_458 h3 rfl ?_
      refine rhF.sub [0] rfl ?_
      exact (b_X12_undo_29) _ _ _
theorem c_X12_undo (E : rhE) (Γ : rhG) (M : rhM) (v0 : Nat) (v1 : Int32) : ∀ a, f_X12_undo Γ M v0 v1 = some a → rhC E 5 yX12_undo cX12_undo 4 (some .int) [rhR v0, rhI v1] Γ M ((rhe1I Γ) a) := rhF.met (by decide +kernel) (Nat.le_of_ble_eq_true rfl) (b_X12_undo M v0 v1)
def f_X12_goal_12 (k38 : rhM → Nat → Int32 → Option (Int32 × rhM)) (Γ : rhG) : Nat → rhM → Nat → Int32 → Int32 → Option (Int32 × rhM)
  | 0, _, _, _, _ => none
  | n + 1, M, v0, v1, v2 =>
    rhck (Γ.2.2.1 v0 = 13) <|
    if v2 < (M.1 v0 53) then
      (rhck (Γ.2.2.1 (M.2.2 v0 52) = 15) <|
      rhck (0 ≤ (v2).toInt ∧ (v2).toInt < (Γ.2.2.2 (M.2.2 v0 52) : Nat)) <|
      if (M.1 (M.2.2 v0 52) v2.toNatClampNeg) = v1 then
        (some (((-1), M)))
      else
        let x9 : Int32 := v2 + 1
        f_X12_goal_12 k38 Γ n M v0 v1 x9)
    else
      k38 M v0 v1
def f_X12_goal_38 (Γ : rhG) (M : rhM) (v0 : Nat) (v1 : Int32) : Option (Int32 × rhM) :=
  rhck (Γ.2.2.1 v0 = 13) <|
  rhck (Γ.2.2.1 (M.2.2 v0 52) = 15) <|
  rhck (0 ≤ (M.1 v0 53).toInt ∧ (M.1 v0 53).toInt < (Γ.2.2.2 (M.2.2 v0 52) : Nat)) <|
  let M13 := rhsi M (M.2.2 v0 52) (M.1 v0 53 : Int32).toNatClampNeg v1
  let M14 := rhsi M13 v0 53 ((M13.1 v0 53) + 1)
  some ((M14.1 v0 53, M14))
def f_X12_goal (Γ : rhG) (M : rhM) (v0 : Nat) (v1 : Int32) : Option (Int32 × rhM) :=
  rhck (Γ.2.2.1 v0 = 13) <|
  (f_X12_isHouse Γ M v0 v1).bind fun r2 =>
  if r2 = 0 then
    (some (((-1), M)))
  else
    f_X12_goal_12 (f_X12_goal_38 Γ) Γ rhFU M v0 v1 0
set_option maxHeartbeats 4000000 in
set_option maxRecDepth 100000 in
theorem b_X12_goal_12 {E : rhE} {Γ : rhG} {k38 : rhM → Nat → Int32 → Option (Int32 × rhM)} (hk38 : ∀ (M : rhM) (v0 : Nat) (v1 : Int32), rhF E 6 3 yX12_goal cX12_goal (some .int) Γ (rhe1I Γ) (k38 M v0 v1) 38 [(0, rhR v0), (1, rhI v1)] [] Γ M) : ∀ (n : Nat) (M : rhM) (v0 : Nat) (v1 : Int32) (v2 : Int32), rhF E 6 3 yX12_goal cX12_goal (some .int) Γ (rhe1I Γ) (f_X12_goal_12 k38 Γ n M v0 v1 v2) 12 [(0, rhR v0), (1, rhI v1), (2, rhI v2)] [] Γ M := by
  intro n
  induction n with
  | zero => intro M v0 v1 v2; rw [f_X12_goal_12]; exact rhF.nope
  | succ n ih =>
    intro M v0 v1 v2
    rw [f_X12_goal_12]
    refine rhF.iload_n (pc := 12) dX12_goal_12 2 rfl ?_
    refine rhF.aload_n (pc := 13) dX12_goal_13 0 rfl ?_
    refine rhF.ck (fun h4 => ?_)
    refine rhF.get (pc := 14) (rhI _) dX12_goal_14 fl_X12_339 h4 rfl ?_
    refine rhF.icmp_ge (pc := 17) 38 dX12_goal_17 (by decide) (fun h5 => ?_) (fun h5 => ?_)
    · refine rhF.aload_n (pc := 20) dX12_goal_20 0 rfl ?_
      refine rhF.get (pc := 21) (rhR _) dX12_goal_21 fl_X12_119 h4 rfl ?_
      refine rhF.iload_n (pc := 24) dX12_goal_24 2 rfl ?_
      refine rhF.ck (fun h6 => ?_)
      refine rhF.ck (fun h7 => ?_)
      refine rhF.iald (pc := 25) dX12_goal_25 h6 h7 ?_
      refine rhF.iload_n (pc := 26) dX12_goal_26 1 rfl ?_
      refine rhF.icmp_ne (pc := 27) 32 dX12_goal_27 (by decide) (fun h8 => ?_) (fun h8 => ?_)
      · refine rhF.iconst (pc := 30) (v := (-1)) dX12_goal_30 (by decide) ?_
        exact rhF.zret (pc := 31) dX12_goal_31 rfl rfl rfl
      · refine rhF.iinc (pc := 32) (L' := [(2, rhI _), (0, rhR _), (1, rhI _)]) dX12_goal_32 2 rfl rfl (by decide) rfl ?_
        refine rhF.goto (pc := 35) 12 dX12_goal_35 (by decide) ?_
        refine rhF.sub [1, 2, 0] rfl ?_
        exact ih _ _ _ _
    · refine rhF.sub [0, 1] rfl ?_
      exact hk38 _ _ _
set_option maxHeartbeats 4000000 in
set_option maxRecDepth 100000 in
theorem b_X12_goal_38 {E : rhE} {Γ : rhG} : ∀ (M : rhM) (v0 : Nat) (v1 : Int32), rhF E 6 3 yX12_goal cX12_goal (some .int) Γ (rhe1I Γ) (f_X12_goal_38 Γ M v0 v1) 38 [(0, rhR v0), (1, rhI v1)] [] Γ M := by
  intro M v0 v1
  rw [f_X12_goal_38]
  refine rhF.aload_n (pc := 38) dX12_goal_38 0 rfl ?_
  refine rhF.ck (fun h10 => ?_)
  refine rhF.get (pc := 39) (rhR _) dX12_goal_39 fl_X12_119 h10 rfl ?_
  refine rhF.aload_n (pc := 42) dX12_goal_42 0 rfl ?_
  refine rhF.get (pc := 43) (rhI _) dX12_goal_43 fl_X12_339 h10 rfl ?_
  refine rhF.iload_n (pc := 46) dX12_goal_46 1 rfl ?_
  refine rhF.ck (fun h11 => ?_)
  refine rhF.ck (fun h12 => ?_)
  refine rhF.iast (pc := 47) dX12_goal_47 h11 h12 ?_
  refine rhF.aload_n (pc := 48) dX12_goal_48 0 rfl ?_
  refine rhF.dupr (pc := 49) dX12_goal_49 ?_
  refine rhF.get (pc := 50) (rhI _) dX12_goal_50 fl_X12_339 h10 rfl ?_
  refine rhF.iconst (pc := 53) (v := 1) dX12_goal_53 (by decide) ?_
  refine rhF.iadd (pc := 54) dX12_goal_54 ?_
  refine rhF.puti (pc := 55) dX12_goal_55 fl_X12_339 h10 (fun q hq => by cases hq; exact Or.inl rfl) ⟨rfl, rfl⟩ (fun _ => rfl) ?_
  refine rhF.aload_n (pc := 58) dX12_goal_58 0 rfl ?_
  refine rhF.get (pc := 59) (rhI _) dX12_goal_59 fl_X12_339 h10 rfl ?_
  exact rhF.zret (pc := 62) dX12_goal_62 rfl rfl rfl
set_option maxHeartbeats 4000000 in
set_option maxRecDepth 100000 in
theorem b_X12_goal {E : rhE} {Γ : rhG} : ∀ (M : rhM) (v0 : Nat) (v1 : Int32), rhF E 6 3 yX12_goal cX12_goal (some .int) Γ (rhe1I Γ) (f_X12_goal Γ M v0 v1) 0 [(0, rhR v0), (1, rhI v1)] [] Γ M := by
  intro M v0 v1
  rw [f_X12_goal]
  refine rhF.aload_n (pc := 0) dX12_goal_0 0 rfl ?_
  refine rhF.iload_n (pc := 1) dX12_goal_1 1 rfl ?_
  refine rhF.ck (fun h1 => ?_)
  refine rhF.callV (pc := 2) (ci := 12) (embc := rhe0I _ _) [rhI _] dX12_goal_2 ml_X12_464 mv_X12_isHouse ⟨_, rfl, rfl⟩ h1 (c_X12_isHouse _ _ _ _ _) (by decide) (by decide) rfl (Nat.le_of_ble_eq_true rfl) (fun r2 _ => ?_)
  refine rhF.if_ne (pc := 5) 10 dX12_goal_5 (by decide) (fun h3 => ?_) (fun h3 => ?_)
  · refine rhF.iconst (pc := 8) (v := (-1)) dX12_goal_8 (by decide) ?_
    exact rhF.zret (pc := 9) dX12_goal_9 rfl rfl rfl
  · refine rhF.iconst (pc := 10) (v := 0) dX12_goal_10 (by decide) ?_
    refine rhF.istore_n (pc := 11) (L' := [(2, rhI _), (0, rhR _), (1, rhI _)]) dX12_goal_11 (by decide) rfl ?_
    refine rhF.sub [1, 2, 0] rfl ?_
    exact (b_X12_goal_12 (b_X12_goal_38) rhFU) _ _ _ _
theorem c_X12_goal (E : rhE) (Γ : rhG) (M : rhM) (v0 : Nat) (v1 : Int32) : ∀ a, f_X12_goal Γ M v0 v1 = some a → rhC E 6 yX12_goal cX12_goal 3 (some .int) [rhR v0, rhI v1] Γ M ((rhe1I Γ) a) := rhF.met (by decide +kernel) (Nat.le_of_ble_eq_true rfl) (b_X12_goal M v0 v1)
def f_X12_railOf_4 (k20 : Nat → Int32 → Int32 → Option (Int32)) (Γ : rhG) (M : rhM) : Nat → Nat → Int32 → Int32 → Int32 → Option (Int32)
  | 0, _, _, _, _ => none
  | n + 1, v0, v1, v2, v3 =>
    rhck (Γ.2.2.1 v0 = 13) <|
    rhck (Γ.2.2.1 (M.2.2 v0 39) = 15) <|
    rhck (0 ≤ (v2).toInt ∧ (v2).toInt < (Γ.2.2.2 (M.2.2 v0 39) : Nat)) <|
    if (M.1 (M.2.2 v0 39) v2.toNatClampNeg) = v1 then
      (k20 v0 v2 v3)
    else
      let x5 : Int32 := v2 + 1
      f_X12_railOf_4 k20 Γ M n v0 v1 x5 v3
def f_X12_railOf_20 (Γ : rhG) (M : rhM) : Nat → Nat → Int32 → Int32 → Option (Int32)
  | 0, _, _, _ => none
  | n + 1, v0, v2, v3 =>
    rhck (Γ.2.2.1 v0 = 13) <|
    rhck (Γ.2.2.1 (M.2.2 v0 40) = 15) <|
    rhck (0 ≤ (v3).toInt ∧ (v3).toInt < (Γ.2.2.2 (M.2.2 v0 40) : Nat)) <|
    if v2 < (M.1 (M.2.2 v0 40) v3.toNatClampNeg) then
      (some v3)
    else
      let x10 : Int32 := v3 + 1
      f_X12_railOf_20 Γ M n v0 v2 x10
def f_X12_railOf (Γ : rhG) (M : rhM) (v0 : Nat) (v1 : Int32) : Option (Int32) :=
  f_X12_railOf_4 (f_X12_railOf_20 Γ M rhFU) Γ M rhFU v0 v1 0 0
set_option maxHeartbeats 4000000 in
set_option maxRecDepth 100000 in
theorem b_X12_railOf_4 {E : rhE} {Γ : rhG} {M : rhM} {k20 : Nat → Int32 → Int32 → Option (Int32)} (hk20 : ∀ (v0 : Nat) (v2 : Int32) (v3 : Int32), rhF E 1 4 yX12_railOf cX12_railOf (some .int) Γ (rhe0I Γ M) (k20 v0 v2 v3) 20 [(0, rhR v0), (2, rhI v2), (3, rhI v3)] [] Γ M) : ∀ (n : Nat) (v0 : Nat) (v1 : Int32) (v2 : Int32) (v3 : Int32), rhF E 1 4 yX12_railOf cX12_railOf (some .int) Γ (rhe0I Γ M) (f_X12_railOf_4 k20 Γ M n v0 v1 v2 v3) 4 [(0, rhR v0), (1, rhI v1), (2, rhI v2), (3, rhI v3)] [] Γ M := by
  intro n
  induction n with
  | zero => intro v0 v1 v2 v3; rw [f_X12_railOf_4]; exact rhF.nope
  | succ n ih =>
    intro v0 v1 v2 v3
    rw [f_X12_railOf_4]
    refine rhF.aload_n (pc := 4) dX12_railOf_4 0 rfl ?_
    refine rhF.ck (fun h1 => ?_)
    refine rhF.get (pc := 5) (rhR _) dX12_railOf_5 fl_X12_92 h1 rfl ?_
    refine rhF.iload_n (pc := 8) dX12_railOf_8 2 rfl ?_
    refine rhF.ck (fun h2 => ?_)
    refine rhF.ck (fun h3 => ?_)
    refine rhF.iald (pc := 9) dX12_railOf_9 h2 h3 ?_
    refine rhF.iload_n (pc := 10) dX12_railOf_10 1 rfl ?_
    refine rhF.icmp_eq (pc := 11) 20 dX12_railOf_11 (by decide) (fun h4 => ?_) (fun h4 => ?_)
    · refine rhF.sub [0, 2, 3] rfl ?_
      exact hk20 _ _ _
    · refine rhF.iinc (pc := 14) (L' := [(2, rhI _), (0, rhR _), (1, rhI _), (3, rhI _)]) dX12_railOf_14 2 rfl rfl (by decide) rfl ?_
      refine rhF.goto (pc := 17) 4 dX12_railOf_17 (by decide) ?_
      refine rhF.sub [1, 2, 0, 3] rfl ?_
      exact ih _ _ _ _
set_option maxHeartbeats 4000000 in
set_option maxRecDepth 100000 in
theorem b_X12_railOf_20 {E : rhE} {Γ : rhG} {M : rhM} : ∀ (n : Nat) (v0 : Nat) (v2 : Int32) (v3 : Int32), rhF E 1 4 yX12_railOf cX12_railOf (some .int) Γ (rhe0I Γ M) (f_X12_railOf_20 Γ M n v0 v2 v3) 20 [(0, rhR v0), (2, rhI v2), (3, rhI v3)] [] Γ M := by
  intro n
  induction n with
  | zero => intro v0 v2 v3; rw [f_X12_railOf_20]; exact rhF.nope
  | succ n ih =>
    intro v0 v2 v3
    rw [f_X12_railOf_20]
    refine rhF.aload_n (pc := 20) dX12_railOf_20 0 rfl ?_
    refine rhF.ck (fun h6 => ?_)
    refine rhF.get (pc := 21) (rhR _) dX12_railOf_21 fl_X12_95 h6 rfl ?_
    refine rhF.iload_n (pc := 24) dX12_railOf_24 2 rfl ?_
    refine rhF.ck (fun h7 => ?_)
    refine rhF.ck (fun h8 => ?_)
    refine rhF.iald (pc := 25) dX12_railOf_25 h7 h8 ?_
    refine rhF.iload_n (pc := 26) dX12_railOf_26 1 rfl ?_
    refine rhF.icmp_gt (pc := 27) 36 dX12_railOf_27 (by decide) (fun h9 => ?_) (fun h9 => ?_)
    · refine rhF.iload_n (pc := 36) dX12_railOf_36 2 rfl ?_
      exact rhF.zret (pc := 37) dX12_railOf_37 rfl rfl rfl
    · refine rhF.iinc (pc := 30) (L' := [(3, rhI _), (0, rhR _), (2, rhI _)]) dX12_railOf_30 2 rfl rfl (by decide) rfl ?_
      refine rhF.goto (pc := 33) 20 dX12_railOf_33 (by decide) ?_
      refine rhF.sub [1, 2, 0] rfl ?_
      exact ih _ _ _
set_option maxHeartbeats 4000000 in
set_option maxRecDepth 100000 in
theorem b_X12_railOf {E : rhE} {Γ : rhG} {M : rhM} : ∀ (v0 : Nat) (v1 : Int32), rhF E 1 4 yX12_railOf cX12_railOf (some .int) Γ (rhe0I Γ M) (f_X12_railOf Γ M v0 v1) 0 [(0, rhR v0), (1, rhI v1)] [] Γ M := by
  intro v0 v1
  rw [f_X12_railOf]
  refine rhF.iconst (pc := 0) (v := 0) dX12_railOf_0 (by decide) ?_
  refine rhF.istore_n (pc := 1) (L' := [(2, rhI _), (0, rhR _), (1, rhI _)]) dX12_railOf_1 (by decide) rfl ?_
  refine rhF.iconst (pc := 2) (v := 0) dX12_railOf_2 (by decide) ?_
  refine rhF.istore_n (pc := 3) (L' := [(3, rhI _), (2, rhI _), (0, rhR _), (1, rhI _)]) dX12_railOf_3 (by decide) rfl ?_
  refine rhF.sub [2, 3, 1, 0] rfl ?_
  exact (b_X12_railOf_4 (b_X12_railOf_20 rhFU) rhFU) _ _ _ _
theorem c_X12_railOf (E : rhE) (Γ : rhG) (M : rhM) (v0 : Nat) (v1 : Int32) : ∀ a, f_X12_railOf Γ M v0 v1 = some a → rhC E 1 yX12_railOf cX12_railOf 4 (some .int) [rhR v0, rhI v1] Γ M ((rhe0I Γ M) a) := rhF.met (by decide +kernel) (Nat.le_of_ble_eq_true rfl) (b_X12_railOf v0 v1)
def f_X12_isSo_87 (k2 : Nat → Int32 → Int32 → Int32 → Option (Int32)) (Γ : rhG) (M : rhM) (v0 : Nat) (v1 : Int32) (v2 : Int32) (v3 : Int32) : Option (Int32) :=
  let x9 : Int32 := v3 + 1
  k2 v0 v1 v2 x9
def f_X12_isSo_76 (k87 : Nat → Int32 → Int32 → Int32 → Option (Int32)) (Γ : rhG) (M : rhM) (v0 : Nat) (v1 : Int32) (v2 : Int32) (v3 : Int32) (s0 : Int32) : Option (Int32) :=
  rhck (Γ.2.2.1 v0 = 13) <|
  rhck (Γ.2.2.1 (M.2.2 v0 81) = 17) <|
  rhck (0 ≤ (v3).toInt ∧ (v3).toInt < (Γ.2.2.2 (M.2.2 v0 81) : Nat)) <|
  if s0 = (M.1 (M.2.2 v0 81) v3.toNatClampNeg) then
    (k87 v0 v1 v2 v3)
  else
    some 0
def f_X12_isSo_52 (k87 : Nat → Int32 → Int32 → Int32 → Option (Int32)) (Γ : rhG) (M : rhM) (v0 : Nat) (v1 : Int32) (v2 : Int32) (v3 : Int32) : Option (Int32) :=
  rhck (Γ.2.2.1 v0 = 13) <|
  rhck (Γ.2.2.1 (M.2.2 v0 73) = 15) <|
  rhck (0 ≤ (v3).toInt ∧ (v3).toInt < (Γ.2.2.2 (M.2.2 v0 73) : Nat)) <|
  (f_X12_railOf Γ M v0 (M.1 (M.2.2 v0 73) v3.toNatClampNeg)).bind fun r16 =>
  rhck (Γ.2.2.1 (M.2.2 v0 74) = 15) <|
  rhck (0 ≤ (v3).toInt ∧ (v3).toInt < (Γ.2.2.2 (M.2.2 v0 74) : Nat)) <|
  if r16 = (M.1 (M.2.2 v0 74) v3.toNatClampNeg) then
    (f_X12_isSo_76 k87 Γ M v0 v1 v2 v3 1)
  else
    f_X12_isSo_76 k87 Γ M v0 v1 v2 v3 0
def f_X12_isSo_2 (Γ : rhG) (M : rhM) : Nat → Nat → Int32 → Int32 → Int32 → Option (Int32)
  | 0, _, _, _, _ => none
  | n + 1, v0, v1, v2, v3 =>
    rhck (Γ.2.2.1 v0 = 13) <|
    if v3 < (M.1 v0 82) then
      (rhck (Γ.2.2.1 (M.2.2 v0 72) = 15) <|
      rhck (0 ≤ (v3).toInt ∧ (v3).toInt < (Γ.2.2.2 (M.2.2 v0 72) : Nat)) <|
      if (M.1 (M.2.2 v0 72) v3.toNatClampNeg) = v1 then
        (rhck (Γ.2.2.1 (M.2.2 v0 75) = 15) <|
        rhck (0 ≤ (v3).toInt ∧ (v3).toInt < (Γ.2.2.2 (M.2.2 v0 75) : Nat)) <|
        if v2 < (M.1 (M.2.2 v0 75) v3.toNatClampNeg) then
          (f_X12_isSo_87 (f_X12_isSo_2 Γ M n) Γ M v0 v1 v2 v3)
        else
          rhck (Γ.2.2.1 (M.2.2 v0 76) = 15) <|
          rhck (0 ≤ (v3).toInt ∧ (v3).toInt < (Γ.2.2.2 (M.2.2 v0 76) : Nat)) <|
          if (M.1 (M.2.2 v0 76) v3.toNatClampNeg) < 0 then
            (f_X12_isSo_52 (f_X12_isSo_87 (f_X12_isSo_2 Γ M n) Γ M) Γ M v0 v1 v2 v3)
          else
            if v2 < (M.1 (M.2.2 v0 76) v3.toNatClampNeg) then
              (f_X12_isSo_52 (f_X12_isSo_87 (f_X12_isSo_2 Γ M n) Γ M) Γ M v0 v1 v2 v3)
            else
              f_X12_isSo_87 (f_X12_isSo_2 Γ M n) Γ M v0 v1 v2 v3)
      else
        f_X12_isSo_87 (f_X12_isSo_2 Γ M n) Γ M v0 v1 v2 v3)
    else
      some 1
def f_X12_isSo (Γ : rhG) (M : rhM) (v0 : Nat) (v1 : Int32) (v2 : Int32) : Option (Int32) :=
  f_X12_isSo_2 Γ M rhFU v0 v1 v2 0
set_option maxHeartbeats 4000000 in
set_option maxRecDepth 100000 in
theorem b_X12_isSo_87 {E : rhE} {Γ : rhG} {M : rhM} {k2 : Nat → Int32 → Int32 → Int32 → Option (Int32)} (hk2 : ∀ (v0 : Nat) (v1 : Int32) (v2 : Int32) (v3 : Int32), rhF E 5 4 yX12_isSo cX12_isSo (some .boolean) Γ (rhe0I Γ M) (k2 v0 v1 v2 v3) 2 [(0, rhR v0), (1, rhI v1), (2, rhI v2), (3, rhI v3)] [] Γ M) : ∀ (v0 : Nat) (v1 : Int32) (v2 : Int32) (v3 : Int32), rhF E 5 4 yX12_isSo cX12_isSo (some .boolean) Γ (rhe0I Γ M) (f_X12_isSo_87 k2 Γ M v0 v1 v2 v3) 87 [(0, rhR v0), (1, rhI v1), (2, rhI v2), (3, rhI v3)] [] Γ M := by
  intro v0 v1 v2 v3
  rw [f_X12_isSo_87]
  refine rhF.iinc (pc := 87) (L' := [(3, rhI _), (0, rhR _), (1, rhI _), (2, rhI _)]) dX12_isSo_87 3 rfl rfl (by decide) rfl ?_
  refine rhF.goto (pc := 90) 2 dX12_isSo_90 (by decide) ?_
  refine rhF.sub [1, 2, 3, 0] rfl ?_
  exact hk2 _ _ _ _
set_option maxHeartbeats 4000000 in
set_option maxRecDepth 100000 in
theorem b_X12_isSo_76 {E : rhE} {Γ : rhG} {M : rhM} {k87 : Nat → Int32 → Int32 → Int32 → Option (Int32)} (hk87 : ∀ (v0 : Nat) (v1 : Int32) (v2 : Int32) (v3 : Int32), rhF E 5 4 yX12_isSo cX12_isSo (some .boolean) Γ (rhe0I Γ M) (k87 v0 v1 v2 v3) 87 [(0, rhR v0), (1, rhI v1), (2, rhI v2), (3, rhI v3)] [] Γ M) : ∀ (v0 : Nat) (v1 : Int32) (v2 : Int32) (v3 : Int32) (s0 : Int32), rhF E 5 4 yX12_isSo cX12_isSo (some .boolean) Γ (rhe0I Γ M) (f_X12_isSo_76 k87 Γ M v0 v1 v2 v3 s0) 76 [(0, rhR v0), (1, rhI v1), (2, rhI v2), (3, rhI v3)] [rhI s0] Γ M := by
  intro v0 v1 v2 v3 s0
  rw [f_X12_isSo_76]
  refine rhF.aload_n (pc := 76) dX12_isSo_76 0 rfl ?_
  refine rhF.ck (fun h20 => ?_)
  refine rhF.get (pc := 77) (rhR _) dX12_isSo_77 fl_X12_187 h20 rfl ?_
  refine rhF.iload_n (pc := 80) dX12_isSo_80 3 rfl ?_
  refine rhF.ck (fun h21 => ?_)
  refine rhF.ck (fun h22 => ?_)
  refine rhF.zald (pc := 81) dX12_isSo_81 h21 h22 ?_
  refine rhF.icmp_eq (pc := 82) 87 dX12_isSo_82 (by decide) (fun h23 => ?_) (fun h23 => ?_)
  · exact hk87 _ _ _ _
  · refine rhF.iconst (pc := 85) (v := 0) dX12_isSo_85 (by decide) ?_
    exact rhF.zret (pc := 86) dX12_isSo_86 rfl rfl rfl
set_option maxHeartbeats 4000000 in
set_option maxRecDepth 100000 in
theorem b_X12_isSo_52 {E : rhE} {Γ : rhG} {M : rhM} {k87 : Nat → Int32 → Int32 → Int32 → Option (Int32)} (hk87 : ∀ (v0 : Nat) (v1 : Int32) (v2 : Int32) (v3 : Int32), rhF E 5 4 yX12_isSo cX12_isSo (some .boolean) Γ (rhe0I Γ M) (k87 v0 v1 v2 v3) 87 [(0, rhR v0), (1, rhI v1), (2, rhI v2), (3, rhI v3)] [] Γ M) : ∀ (v0 : Nat) (v1 : Int32) (v2 : Int32) (v3 : Int32), rhF E 5 4 yX12_isSo cX12_isSo (some .boolean) Γ (rhe0I Γ M) (f_X12_isSo_52 k87 Γ M v0 v1 v2 v3) 52 [(0, rhR v0), (1, rhI v1), (2, rhI v2), (3, rhI v3)] [] Γ M := by
  intro v0 v1 v2 v3
  rw [f_X12_isSo_52]
  refine rhF.aload_n (pc := 52) dX12_isSo_52 0 rfl ?_
  refine rhF.aload_n (pc := 53) dX12_isSo_53 0 rfl ?_
  refine rhF.ck (fun h13 => ?_)
  refine rhF.get (pc := 54) (rhR _) dX12_isSo_54 fl_X12_163 h13 rfl ?_
  refine rhF.iload_n (pc := 57) dX12_isSo_57 3 rfl ?_
  refine rhF.ck (fun h14 => ?_)
  refine rhF.ck (fun h15 => ?_)
  refine rhF.iald (pc := 58) dX12_isSo_58 h14 h15 ?_
  refine rhF.callV (pc := 59) (ci := 12) (embc := rhe0I _ _) [rhI _] dX12_isSo_59 ml_X12_559 mv_X12_railOf ⟨_, rfl, rfl⟩ h13 (c_X12_railOf _ _ _ _ _) (by decide) (by decide) rfl (Nat.le_of_ble_eq_true rfl) (fun r16 _ => ?_)
  refine rhF.aload_n (pc := 62) dX12_isSo_62 0 rfl ?_
  refine rhF.get (pc := 63) (rhR _) dX12_isSo_63 fl_X12_166 h13 rfl ?_
  refine rhF.iload_n (pc := 66) dX12_isSo_66 3 rfl ?_
  refine rhF.ck (fun h17 => ?_)
  refine rhF.ck (fun h18 => ?_)
  refine rhF.iald (pc := 67) dX12_isSo_67 h17 h18 ?_
  refine rhF.icmp_ne (pc := 68) 75 dX12_isSo_68 (by decide) (fun h19 => ?_) (fun h19 => ?_)
  · refine rhF.iconst (pc := 71) (v := 1) dX12_isSo_71 (by decide) ?_
    refine rhF.goto (pc := 72) 76 dX12_isSo_72 (by decide) ?_
    exact (b_X12_isSo_76 hk87) _ _ _ _ _
  · refine rhF.iconst (pc := 75) (v := 0) dX12_isSo_75 (by decide) ?_
    exact (b_X12_isSo_76 hk87) _ _ _ _ _
set_option maxHeartbeats 4000000 in
set_option maxRecDepth 100000 in
theorem b_X12_isSo_2 {E : rhE} {Γ : rhG} {M : rhM} : ∀ (n : Nat) (v0 : Nat) (v1 : Int32) (v2 : Int32) (v3 : Int32), rhF E 5 4 yX12_isSo cX12_isSo (some .boolean) Γ (rhe0I Γ M) (f_X12_isSo_2 Γ M n v0 v1 v2 v3) 2 [(0, rhR v0), (1, rhI v1), (2, rhI v2), (3, rhI v3)] [] Γ M := by
  intro n
  induction n with
  | zero => intro v0 v1 v2 v3; rw [f_X12_isSo_2]; exact rhF.nope
  | succ n ih =>
    intro v0 v1 v2 v3
    rw [f_X12_isSo_2]
    refine rhF.iload_n (pc := 2) dX12_isSo_2 3 rfl ?_
    refine rhF.aload_n (pc := 3) dX12_isSo_3 0 rfl ?_
    refine rhF.ck (fun h1 => ?_)
    refine rhF.get (pc := 4) (rhI _) dX12_isSo_4 fl_X12_333 h1 rfl ?_
    refine rhF.icmp_ge (pc := 7) 93 dX12_isSo_7 (by decide) (fun h2 => ?_) (fun h2 => ?_)
    · refine rhF.aload_n (pc := 10) dX12_isSo_10 0 rfl ?_
      refine rhF.get (pc := 11) (rhR _) dX12_isSo_11 fl_X12_160 h1 rfl ?_
      refine rhF.iload_n (pc := 14) dX12_isSo_14 3 rfl ?_
      refine rhF.ck (fun h3 => ?_)
      refine rhF.ck (fun h4 => ?_)
      refine rhF.iald (pc := 15) dX12_isSo_15 h3 h4 ?_
      refine rhF.iload_n (pc := 16) dX12_isSo_16 1 rfl ?_
      refine rhF.icmp_ne (pc := 17) 87 dX12_isSo_17 (by decide) (fun h5 => ?_) (fun h5 => ?_)
      · refine rhF.aload_n (pc := 20) dX12_isSo_20 0 rfl ?_
        refine rhF.get (pc := 21) (rhR _) dX12_isSo_21 fl_X12_169 h1 rfl ?_
        refine rhF.iload_n (pc := 24) dX12_isSo_24 3 rfl ?_
        refine rhF.ck (fun h6 => ?_)
        refine rhF.ck (fun h7 => ?_)
        refine rhF.iald (pc := 25) dX12_isSo_25 h6 h7 ?_
        refine rhF.iload_n (pc := 26) dX12_isSo_26 2 rfl ?_
        refine rhF.icmp_gt (pc := 27) 87 dX12_isSo_27 (by decide) (fun h8 => ?_) (fun h8 => ?_)
        · exact (b_X12_isSo_87 ih) _ _ _ _
        · refine rhF.aload_n (pc := 30) dX12_isSo_30 0 rfl ?_
          refine rhF.get (pc := 31) (rhR _) dX12_isSo_31 fl_X12_172 h1 rfl ?_
          refine rhF.iload_n (pc := 34) dX12_isSo_34 3 rfl ?_
          refine rhF.ck (fun h10 => ?_)
          refine rhF.ck (fun h11 => ?_)
          refine rhF.iald (pc := 35) dX12_isSo_35 h10 h11 ?_
          refine rhF.if_lt (pc := 36) 52 dX12_isSo_36 (by decide) (fun h12 => ?_) (fun h12 => ?_)
          · exact (b_X12_isSo_52 (b_X12_isSo_87 ih)) _ _ _ _
          · refine rhF.aload_n (pc := 39) dX12_isSo_39 0 rfl ?_
            refine rhF.get (pc := 40) (rhR _) dX12_isSo_40 fl_X12_172 h1 rfl ?_
            refine rhF.iload_n (pc := 43) dX12_isSo_43 3 rfl ?_
            refine rhF.iald (pc := 44) dX12_isSo_44 h10 h11 ?_
            refine rhF.iload_n (pc := 45) dX12_isSo_45 2 rfl ?_
            refine rhF.icmp_gt (pc := 46) 52 dX12_isSo_46 (by decide) (fun h24 => ?_) (fun h24 => ?_)
            · exact (b_X12_isSo_52 (b_X12_isSo_87 ih)) _ _ _ _
            · refine rhF.goto (pc := 49) 87 dX12_isSo_49 (by decide) ?_
              exact (b_X12_isSo_87 ih) _ _ _ _
      · exact (b_X12_isSo_87 ih) _ _ _ _
    · refine rhF.iconst (pc := 93) (v := 1) dX12_isSo_93 (by decide) ?_
      exact rhF.zret (pc := 94) dX12_isSo_94 rfl rfl rfl
set_option maxHeartbeats 4000000 in
set_option maxRecDepth 100000 in
theorem b_X12_isSo {E : rhE} {Γ : rhG} {M : rhM} : ∀ (v0 : Nat) (v1 : Int32) (v2 : Int32), rhF E 5 4 yX12_isSo cX12_isSo (some .boolean) Γ (rhe0I Γ M) (f_X12_isSo Γ M v0 v1 v2) 0 [(0, rhR v0), (1, rhI v1), (2, rhI v2)] [] Γ M := by
  intro v0 v1 v2
  rw [f_X12_isSo]
  refine rhF.iconst (pc := 0) (v := 0) dX12_isSo_0 (by decide) ?_
  refine rhF.istore_n (pc := 1) (L' := [(3, rhI _), (0, rhR _), (1, rhI _), (2, rhI _)]) dX12_isSo_1 (by decide) rfl ?_
  refine rhF.sub [1, 2, 3, 0] rfl ?_
  exact (b_X12_isSo_2 rhFU) _ _ _ _
theorem c_X12_isSo (E : rhE) (Γ : rhG) (M : rhM) (v0 : Nat) (v1 : Int32) (v2 : Int32) : ∀ a, f_X12_isSo Γ M v0 v1 v2 = some a → rhC E 5 yX12_isSo cX12_isSo 4 (some .boolean) [rhR v0, rhI v1, rhI v2] Γ M ((rhe0I Γ M) a) := rhF.met (by decide +kernel) (Nat.le_of_ble_eq_true rfl) (b_X12_isSo v0 v1 v2)
