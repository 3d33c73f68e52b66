def f_X12_canBe (Γ : rhG) (M : rhM) (v0 : Nat) (v1 : Int32) (v2 : Int32) (v3 : Int32) : Option (Int32) :=
  rhck (Γ.2.2.1 v0 = 13) <|
  (f_X12_isRail Γ M v0 v1).bind fun r2 =>
  if r2 = 0 then
    (some 0)
  else
    (f_X12_isRail Γ M v0 v3).bind fun r4 =>
    if r4 = 0 then
      (some 0)
    else
      if v1 = v3 then
        (some 0)
      else
        if v2 < 1 then
          (some 0)
        else
          rhck (Γ.2.2.1 (M.2.2 v0 40) = 15) <|
          rhck (0 ≤ (v1).toInt ∧ (v1).toInt < (Γ.2.2.2 (M.2.2 v0 40) : Nat)) <|
          (f_X12_beginOf Γ M v0 v1).bind fun r10 =>
          if ((M.1 (M.2.2 v0 40) v1.toNatClampNeg) - r10) < v2 then
            (some 0)
          else
            some 1
set_option maxHeartbeats 4000000 in
set_option maxRecDepth 100000 in
theorem b_X12_canBe {E : rhE} {Γ : rhG} {M : rhM} : ∀ (v0 : Nat) (v1 : Int32) (v2 : Int32) (v3 : Int32), rhF E 6 4 yX12_canBe cX12_canBe (some .boolean) Γ (rhe0I Γ M) (f_X12_canBe Γ M v0 v1 v2 v3) 0 [(0, rhR v0), (1, rhI v1), (2, rhI v2), (3, rhI v3)] [] Γ M := by
  intro v0 v1 v2 v3
  rw [f_X12_canBe]
  refine rhF.aload_n (pc := 0) dX12_canBe_0 0 rfl ?_
  refine rhF.iload_n (pc := 1) dX12_canBe_1 1 rfl ?_
  refine rhF.ck (fun h1 => ?_)
  refine rhF.callV (pc := 2) (ci := 12) (embc := rhe0I _ _) [rhI _] dX12_canBe_2 ml_X12_428 mv_X12_isRail ⟨_, rfl, rfl⟩ h1 (c_X12_isRail _ _ _ _ _) (by decide) (by decide) rfl (Nat.le_of_ble_eq_true rfl) (fun r2 _ => ?_)
  refine rhF.if_eq (pc := 5) 46 dX12_canBe_5 (by decide) (fun h3 => ?_) (fun h3 => ?_)
  · refine rhF.iconst (pc := 46) (v := 0) dX12_canBe_46 (by decide) ?_
    exact rhF.zret (pc := 47) dX12_canBe_47 rfl rfl rfl
  · refine rhF.aload_n (pc := 8) dX12_canBe_8 0 rfl ?_
    refine rhF.iload_n (pc := 9) dX12_canBe_9 3 rfl ?_
    refine rhF.callV (pc := 10) (ci := 12) (embc := rhe0I _ _) [rhI _] dX12_canBe_10 ml_X12_428 mv_X12_isRail ⟨_, rfl, rfl⟩ h1 (c_X12_isRail _ _ _ _ _) (by decide) (by decide) rfl (Nat.le_of_ble_eq_true rfl) (fun r4 _ => ?_)
    refine rhF.if_eq (pc := 13) 46 dX12_canBe_13 (by decide) (fun h5 => ?_) (fun h5 => ?_)
    · refine rhF.iconst (pc := 46) (v := 0) dX12_canBe_46 (by decide) ?_
      exact rhF.zret (pc := 47) dX12_canBe_47 rfl rfl rfl
    · refine rhF.iload_n (pc := 16) dX12_canBe_16 1 rfl ?_
      refine rhF.iload_n (pc := 17) dX12_canBe_17 3 rfl ?_
      refine rhF.icmp_eq (pc := 18) 46 dX12_canBe_18 (by decide) (fun h6 => ?_) (fun h6 => ?_)
      · refine rhF.iconst (pc := 46) (v := 0) dX12_canBe_46 (by decide) ?_
        exact rhF.zret (pc := 47) dX12_canBe_47 rfl rfl rfl
      · refine rhF.iload_n (pc := 21) dX12_canBe_21 2 rfl ?_
        refine rhF.iconst (pc := 22) (v := 1) dX12_canBe_22 (by decide) ?_
        refine rhF.icmp_lt (pc := 23) 46 dX12_canBe_23 (by decide) (fun h7 => ?_) (fun h7 => ?_)
        · refine rhF.iconst (pc := 46) (v := 0) dX12_canBe_46 (by decide) ?_
          exact rhF.zret (pc := 47) dX12_canBe_47 rfl rfl rfl
        · refine rhF.iload_n (pc := 26) dX12_canBe_26 2 rfl ?_
          refine rhF.aload_n (pc := 27) dX12_canBe_27 0 rfl ?_
          refine rhF.get (pc := 28) (rhR _) dX12_canBe_28 fl_X12_95 h1 rfl ?_
          refine rhF.iload_n (pc := 31) dX12_canBe_31 1 rfl ?_
          refine rhF.ck (fun h8 => ?_)
          refine rhF.ck (fun h9 => ?_)
          refine rhF.iald (pc := 32) dX12_canBe_32 h8 h9 ?_
          refine rhF.aload_n (pc := 33) dX12_canBe_33 0 rfl ?_
          refine rhF.iload_n (pc := 34) dX12_canBe_34 1 rfl ?_
          refine rhF.callV (pc := 35) (ci := 12) (embc := rhe0I _ _) [rhI _] dX12_canBe_35 ml_X12_425 mv_X12_beginOf ⟨_, rfl, rfl⟩ h1 (c_X12_beginOf _ _ _ _ _) (by decide) (by decide) rfl (Nat.le_of_ble_eq_true rfl) (fun r10 _ => ?_)
          refine rhF.isub (pc := 38) dX12_canBe_38 ?_
          refine rhF.icmp_gt (pc := 39) 46 dX12_canBe_39 (by decide) (fun h11 => ?_) (fun h11 => ?_)
          · refine rhF.iconst (pc := 46) (v := 0) dX12_canBe_46 (by decide) ?_
            exact rhF.zret (pc := 47) dX12_canBe_47 rfl rfl rfl
          · refine rhF.iconst (pc := 42) (v := 1) dX12_canBe_42 (by decide) ?_
            refine rhF.goto (pc := 43) 47 dX12_canBe_43 (by decide) ?_
            exact rhF.zret (pc := 47) dX12_canBe_47 rfl rfl rfl
theorem c_X12_canBe (E : rhE) (Γ : rhG) (M : rhM) (v0 : Nat) (v1 : Int32) (v2 : Int32) (v3 : Int32) : ∀ a, f_X12_canBe Γ M v0 v1 v2 v3 = some a → rhC E 6 yX12_canBe cX12_canBe 4 (some .boolean) [rhR v0, rhI v1, rhI v2, rhI v3] Γ M ((rhe0I Γ M) a) := rhF.met (by decide +kernel) (Nat.le_of_ble_eq_true rfl) (b_X12_canBe v0 v1 v2 v3)
def f_X12_two (Γ : rhG) (M : rhM) (v0 : Int32) (v1 : Int32) (v2 : Int32) : Option (Int32) :=
  if v0 = 38 then
    (if v1 = 0 then
      (some 0)
    else
      if v2 = 0 then
        (some 0)
      else
        some 1)
  else
  if v0 = 39 then
    (if v1 = 0 then
      (if v2 = 0 then
        (some 0)
      else
        some 1)
    else
      some 1)
  else
  if v0 = 40 then
    (if v1 = 0 then
      (if v2 = 0 then
        (some 0)
      else
        some 1)
    else
      some 1)
  else
  if v0 = 41 then
    (if v1 = 0 then
      (if v2 = 0 then
        (some 0)
      else
        some 1)
    else
      some 1)
  else
  if v0 = 42 then
    (some (v1 * v2))
  else
  if v0 = 43 then
    (some (v1 + v2))
  else
  if v0 = 44 then
    (if v1 = 0 then
      (if v2 = 0 then
        (some 0)
      else
        some 1)
    else
      some 1)
  else
  if v0 = 45 then
    (some (v1 - v2))
  else
  if v0 = 46 then
    (if v1 = 0 then
      (if v2 = 0 then
        (some 0)
      else
        some 1)
    else
      some 1)
  else
  if v0 = 47 then
    (if v2 = 0 then
      (some 0)
    else
      rhck (¬ v2 = 0) <|
      some (v1 / v2))
  else
  if v0 = 48 then
    (if v1 = 0 then
      (if v2 = 0 then
        (some 0)
      else
        some 1)
    else
      some 1)
  else
  if v0 = 49 then
    (if v1 = 0 then
      (if v2 = 0 then
        (some 0)
      else
        some 1)
    else
      some 1)
  else
  if v0 = 50 then
    (if v1 = 0 then
      (if v2 = 0 then
        (some 0)
      else
        some 1)
    else
      some 1)
  else
  if v0 = 51 then
    (if v1 = 0 then
      (if v2 = 0 then
        (some 0)
      else
        some 1)
    else
      some 1)
  else
  if v0 = 52 then
    (if v1 = 0 then
      (if v2 = 0 then
        (some 0)
      else
        some 1)
    else
      some 1)
  else
  if v0 = 53 then
    (if v1 = 0 then
      (if v2 = 0 then
        (some 0)
      else
        some 1)
    else
      some 1)
  else
  if v0 = 54 then
    (if v1 = 0 then
      (if v2 = 0 then
        (some 0)
      else
        some 1)
    else
      some 1)
  else
  if v0 = 55 then
    (if v1 = 0 then
      (if v2 = 0 then
        (some 0)
      else
        some 1)
    else
      some 1)
  else
  if v0 = 56 then
    (if v1 = 0 then
      (if v2 = 0 then
        (some 0)
      else
        some 1)
    else
      some 1)
  else
  if v0 = 57 then
    (if v1 = 0 then
      (if v2 = 0 then
        (some 0)
      else
        some 1)
    else
      some 1)
  else
  if v0 = 58 then
    (if v1 = 0 then
      (if v2 = 0 then
        (some 0)
      else
        some 1)
    else
      some 1)
  else
  if v0 = 59 then
    (if v1 = 0 then
      (if v2 = 0 then
        (some 0)
      else
        some 1)
    else
      some 1)
  else
  if v0 = 60 then
    (if v1 < v2 then
      (some 1)
    else
      some 0)
  else
  if v0 = 61 then
    (if v1 = v2 then
      (some 1)
    else
      some 0)
  else
  if v0 = 62 then
    (if v2 < v1 then
      (some 1)
    else
      some 0)
  else
  if v1 = 0 then
    (if v2 = 0 then
      (some 0)
    else
      some 1)
  else
    some 1
set_option maxHeartbeats 4000000 in
set_option maxRecDepth 100000 in
theorem b_X12_two {E : rhE} {Γ : rhG} {M : rhM} : ∀ (v0 : Int32) (v1 : Int32) (v2 : Int32), rhF E 1 3 yX12_two cX12_two (some .int) Γ (rhe0I Γ M) (f_X12_two Γ M v0 v1 v2) 0 [(0, rhI v0), (1, rhI v1), (2, rhI v2)] [] Γ M := by
  intro v0 v1 v2
  rw [f_X12_two]
  refine rhF.iload_n (pc := 0) dX12_two_0 0 rfl ?_
  refine rhF.ite (fun h1 => ?_) (fun h1 => ?_)
  · refine rhF.tsIn (pc := 1) 173 38 dX12_two_1 (by rw [h1]; decide) (by decide) rfl (by decide) ?_
    refine rhF.iload_n (pc := 173) dX12_two_173 1 rfl ?_
    refine rhF.if_eq (pc := 174) 185 dX12_two_174 (by decide) (fun h2 => ?_) (fun h2 => ?_)
    · refine rhF.iconst (pc := 185) (v := 0) dX12_two_185 (by decide) ?_
      exact rhF.zret (pc := 186) dX12_two_186 rfl rfl rfl
    · refine rhF.iload_n (pc := 177) dX12_two_177 2 rfl ?_
      refine rhF.if_eq (pc := 178) 185 dX12_two_178 (by decide) (fun h3 => ?_) (fun h3 => ?_)
      · refine rhF.iconst (pc := 185) (v := 0) dX12_two_185 (by decide) ?_
        exact rhF.zret (pc := 186) dX12_two_186 rfl rfl rfl
      · refine rhF.iconst (pc := 181) (v := 1) dX12_two_181 (by decide) ?_
        refine rhF.goto (pc := 182) 186 dX12_two_182 (by decide) ?_
        exact rhF.zret (pc := 186) dX12_two_186 rfl rfl rfl
  · skip
    refine rhF.ite (fun h4 => ?_) (fun h4 => ?_)
    · refine rhF.tsIn (pc := 1) 187 39 dX12_two_1 (by rw [h4]; decide) (by decide) rfl (by decide) ?_
      refine rhF.iload_n (pc := 187) dX12_two_187 1 rfl ?_
      refine rhF.if_ne (pc := 188) 195 dX12_two_188 (by decide) (fun h5 => ?_) (fun h5 => ?_)
      · refine rhF.iload_n (pc := 191) dX12_two_191 2 rfl ?_
        refine rhF.if_eq (pc := 192) 199 dX12_two_192 (by decide) (fun h6 => ?_) (fun h6 => ?_)
        · refine rhF.iconst (pc := 199) (v := 0) dX12_two_199 (by decide) ?_
          exact rhF.zret (pc := 200) dX12_two_200 rfl rfl rfl
        · refine rhF.iconst (pc := 195) (v := 1) dX12_two_195 (by decide) ?_
          refine rhF.goto (pc := 196) 200 dX12_two_196 (by decide) ?_
          exact rhF.zret (pc := 200) dX12_two_200 rfl rfl rfl
      · refine rhF.iconst (pc := 195) (v := 1) dX12_two_195 (by decide) ?_
        refine rhF.goto (pc := 196) 200 dX12_two_196 (by decide) ?_
        exact rhF.zret (pc := 200) dX12_two_200 rfl rfl rfl
    · skip
      refine rhF.ite (fun h7 => ?_) (fun h7 => ?_)
      · refine rhF.tsIn (pc := 1) 187 40 dX12_two_1 (by rw [h7]; decide) (by decide) rfl (by decide) ?_
        refine rhF.iload_n (pc := 187) dX12_two_187 1 rfl ?_
        refine rhF.if_ne (pc := 188) 195 dX12_two_188 (by decide) (fun h8 => ?_) (fun h8 => ?_)
        · refine rhF.iload_n (pc := 191) dX12_two_191 2 rfl ?_
          refine rhF.if_eq (pc := 192) 199 dX12_two_192 (by decide) (fun h9 => ?_) (fun h9 => ?_)
          · refine rhF.iconst (pc := 199) (v := 0) dX12_two_199 (by decide) ?_
            exact rhF.zret (pc := 200) dX12_two_200 rfl rfl rfl
          · refine rhF.iconst (pc := 195) (v := 1) dX12_two_195 (by decide) ?_
            refine rhF.goto (pc := 196) 200 dX12_two_196 (by decide) ?_
            exact rhF.zret (pc := 200) dX12_two_200 rfl rfl rfl
        · refine rhF.iconst (pc := 195) (v := 1) dX12_two_195 (by decide) ?_
          refine rhF.goto (pc := 196) 200 dX12_two_196 (by decide) ?_
          exact rhF.zret (pc := 200) dX12_two_200 rfl rfl rfl
      · skip
        refine rhF.ite (fun h10 => ?_) (fun h10 => ?_)
        · refine rhF.tsIn (pc := 1) 187 41 dX12_two_1 (by rw [h10]; decide) (by decide) rfl (by decide) ?_
          refine rhF.iload_n (pc := 187) dX12_two_187 1 rfl ?_
          refine rhF.if_ne (pc := 188) 195 dX12_two_188 (by decide) (fun h11 => ?_) (fun h11 => ?_)
          · refine rhF.iload_n (pc := 191) dX12_two_191 2 rfl ?_
            refine rhF.if_eq (pc := 192) 199 dX12_two_192 (by decide) (fun h12 => ?_) (fun h12 => ?_)
            · refine rhF.iconst (pc := 199) (v := 0) dX12_two_199 (by decide) ?_
              exact rhF.zret (pc := 200) dX12_two_200 rfl rfl rfl
            · refine rhF.iconst (pc := 195) (v := 1) dX12_two_195 (by decide) ?_
              refine rhF.goto (pc := 196) 200 dX12_two_196 (by decide) ?_
              exact rhF.zret (pc := 200) dX12_two_200 rfl rfl rfl
          · refine rhF.iconst (pc := 195) (v := 1) dX12_two_195 (by decide) ?_
            refine rhF.goto (pc := 196) 200 dX12_two_196 (by decide) ?_
            exact rhF.zret (pc := 200) dX12_two_200 rfl rfl rfl
        · skip
          refine rhF.ite (fun h13 => ?_) (fun h13 => ?_)
          · refine rhF.tsIn (pc := 1) 124 42 dX12_two_1 (by rw [h13]; decide) (by decide) rfl (by decide) ?_
            refine rhF.iload_n (pc := 124) dX12_two_124 1 rfl ?_
            refine rhF.iload_n (pc := 125) dX12_two_125 2 rfl ?_
            refine rhF.imul (pc := 126) dX12_two_126 ?_
            exact rhF.zret (pc := 127) dX12_two_127 rfl rfl rfl
          · skip
            refine rhF.ite (fun h14 => ?_) (fun h14 => ?_)
            · refine rhF.tsIn (pc := 1) 116 43 dX12_two_1 (by rw [h14]; decide) (by decide) rfl (by decide) ?_
              refine rhF.iload_n (pc := 116) dX12_two_116 1 rfl ?_
              refine rhF.iload_n (pc := 117) dX12_two_117 2 rfl ?_
              refine rhF.iadd (pc := 118) dX12_two_118 ?_
              exact rhF.zret (pc := 119) dX12_two_119 rfl rfl rfl
            · skip
              refine rhF.ite (fun h15 => ?_) (fun h15 => ?_)
              · refine rhF.tsIn (pc := 1) 187 44 dX12_two_1 (by rw [h15]; decide) (by decide) rfl (by decide) ?_
                refine rhF.iload_n (pc := 187) dX12_two_187 1 rfl ?_
                refine rhF.if_ne (pc := 188) 195 dX12_two_188 (by decide) (fun h16 => ?_) (fun h16 => ?_)
                · refine rhF.iload_n (pc := 191) dX12_two_191 2 rfl ?_
                  refine rhF.if_eq (pc := 192) 199 dX12_two_192 (by decide) (fun h17 => ?_) (fun h17 => ?_)
                  · refine rhF.iconst (pc := 199) (v := 0) dX12_two_199 (by decide) ?_
                    exact rhF.zret (pc := 200) dX12_two_200 rfl rfl rfl
                  · refine rhF.iconst (pc := 195) (v := 1) dX12_two_195 (by decide) ?_
                    refine rhF.goto (pc := 196) 200 dX12_two_196 (by decide) ?_
                    exact rhF.zret (pc := 200) dX12_two_200 rfl rfl rfl
                · refine rhF.iconst (pc := 195) (v := 1) dX12_two_195 (by decide) ?_
                  refine rhF.goto (pc := 196) 200 dX12_two_196 (by decide) ?_
                  exact rhF.zret (pc := 200) dX12_two_200 rfl rfl rfl
              · skip
                refine rhF.ite (fun h18 => ?_) (fun h18 => ?_)
                · refine rhF.tsIn (pc := 1) 120 45 dX12_two_1 (by rw [h18]; decide) (by decide) rfl (by decide) ?_
                  refine rhF.iload_n (pc := 120) dX12_two_120 1 rfl ?_
                  refine rhF.iload_n (pc := 121) dX12_two_121 2 rfl ?_
                  refine rhF.isub (pc := 122) dX12_two_122 ?_
                  exact rhF.zret (pc := 123) dX12_two_123 rfl rfl rfl
                · skip
                  refine rhF.ite (fun h19 => ?_) (fun h19 => ?_)
                  · refine rhF.tsIn (pc := 1) 187 46 dX12_two_1 (by rw [h19]; decide) (by decide) rfl (by decide) ?_
                    refine rhF.iload_n (pc := 187) dX12_two_187 1 rfl ?_
                    refine rhF.if_ne (pc := 188) 195 dX12_two_188 (by decide) (fun h20 => ?_) (fun h20 => ?_)
                    · refine rhF.iload_n (pc := 191) dX12_two_191 2 rfl ?_
                      refine rhF.if_eq (pc := 192) 199 dX12_two_192 (by decide) (fun h21 => ?_) (fun h21 => ?_)
                      · refine rhF.iconst (pc := 199) (v := 0) dX12_two_199 (by decide) ?_
                        exact rhF.zret (pc := 200) dX12_two_200 rfl rfl rfl
                      · refine rhF.iconst (pc := 195) (v := 1) dX12_two_195 (by decide) ?_
                        refine rhF.goto (pc := 196) 200 dX12_two_196 (by decide) ?_
                        exact rhF.zret (pc := 200) dX12_two_200 rfl rfl rfl
                    · refine rhF.iconst (pc := 195) (v := 1) dX12_two_195 (by decide) ?_
                      refine rhF.goto (pc := 196) 200 dX12_two_196 (by decide) ?_
                      exact rhF.zret (pc := 200) dX12_two_200 rfl rfl rfl
                  · skip
                    refine rhF.ite (fun h22 => ?_) (fun h22 => ?_)
                    · refine rhF.tsIn (pc := 1) 128 47 dX12_two_1 (by rw [h22]; decide) (by decide) rfl (by decide) ?_
                      refine rhF.iload_n (pc := 128) dX12_two_128 2 rfl ?_
                      refine rhF.if_ne (pc := 129) 136 dX12_two_129 (by decide) (fun h23 => ?_) (fun h23 => ?_)
                      · refine rhF.iconst (pc := 132) (v := 0) dX12_two_132 (by decide) ?_
                        refine rhF.goto (pc := 133) 139 dX12_two_133 (by decide) ?_
                        exact rhF.zret (pc := 139) dX12_two_139 rfl rfl rfl
                      · refine rhF.iload_n (pc := 136) dX12_two_136 1 rfl ?_
                        refine rhF.iload_n (pc := 137) dX12_two_137 2 rfl ?_
                        refine rhF.ck (fun h24 => ?_)
                        refine rhF.idivc (pc := 138) dX12_two_138 h24 ?_
                        exact rhF.zret (pc := 139) dX12_two_139 rfl rfl rfl
                    · skip
                      refine rhF.ite (fun h25 => ?_) (fun h25 => ?_)
                      · refine rhF.tsIn (pc := 1) 187 48 dX12_two_1 (by rw [h25]; decide) (by decide) rfl (by decide) ?_
                        refine rhF.iload_n (pc := 187) dX12_two_187 1 rfl ?_
                        refine rhF.if_ne (pc := 188) 195 dX12_two_188 (by decide) (fun h26 => ?_) (fun h26 => ?_)
                        · refine rhF.iload_n (pc := 191) dX12_two_191 2 rfl ?_
                          refine rhF.if_eq (pc := 192) 199 dX12_two_192 (by decide) (fun h27 => ?_) (fun h27 => ?_)
                          · refine rhF.iconst (pc := 199) (v := 0) dX12_two_199 (by decide) ?_
                            exact rhF.zret (pc := 200) dX12_two_200 rfl rfl rfl
                          · refine rhF.iconst (pc := 195) (v := 1) dX12_two_195 (by decide) ?_
                            refine rhF.goto (pc := 196) 200 dX12_two_196 (by decide) ?_
                            exact rhF.zret (pc := 200) dX12_two_200 rfl rfl rfl
                        · refine rhF.iconst (pc := 195) (v := 1) dX12_two_195 (by decide) ?_
                          refine rhF.goto (pc := 196) 200 dX12_two_196 (by decide) ?_
                          exact rhF.zret (pc := 200) dX12_two_200 rfl rfl rfl
                      · skip
                        refine rhF.ite (fun h28 => ?_) (fun h28 => ?_)
                        · refine rhF.tsIn (pc := 1) 187 49 dX12_two_1 (by rw [h28]; decide) (by decide) rfl (by decide) ?_
                          refine rhF.iload_n (pc := 187) dX12_two_187 1 rfl ?_
                          refine rhF.if_ne (pc := 188) 195 dX12_two_188 (by decide) (fun h29 => ?_) (fun h29 => ?_)
                          · refine rhF.iload_n (pc := 191) dX12_two_191 2 rfl ?_
                            refine rhF.if_eq (pc := 192) 199 dX12_two_192 (by decide) (fun h30 => ?_) (fun h30 => ?_)
                            · refine rhF.iconst (pc := 199) (v := 0) dX12_two_199 (by decide) ?_
                              exact rhF.zret (pc := 200) dX12_two_200 rfl rfl rfl
                            · refine rhF.iconst (pc := 195) (v := 1) dX12_two_195 (by decide) ?_
                              refine rhF.goto (pc := 196) 200 dX12_two_196 (by decide) ?_
                              exact rhF.zret (pc := 200) dX12_two_200 rfl rfl rfl
                          · refine rhF.iconst (pc := 195) (v := 1) dX12_two_195 (by decide) ?_
                            refine rhF.goto (pc := 196) 200 dX12_two_196 (by decide) ?_
                            exact rhF.zret (pc := 200) dX12_two_200 rfl rfl rfl
                        · skip
                          refine rhF.ite (fun h31 => ?_) (fun h31 => ?_)
                          · refine rhF.tsIn (pc := 1) 187 50 dX12_two_1 (by rw [h31]; decide) (by decide) rfl (by decide) ?_
                            refine rhF.iload_n (pc := 187) dX12_two_187 1 rfl ?_
                            refine rhF.if_ne (pc := 188) 195 dX12_two_188 (by decide) (fun h32 => ?_) (fun h32 => ?_)
                            · refine rhF.iload_n (pc := 191) dX12_two_191 2 rfl ?_
                              refine rhF.if_eq (pc := 192) 199 dX12_two_192 (by decide) (fun h33 => ?_) (fun h33 => ?_)
                              · refine rhF.iconst (pc := 199) (v := 0) dX12_two_199 (by decide) ?_
                                exact rhF.zret (pc := 200) dX12_two_200 rfl rfl rfl
                              · refine rhF.iconst (pc := 195) (v := 1) dX12_two_195 (by decide) ?_
                                refine rhF.goto (pc := 196) 200 dX12_two_196 (by decide) ?_
                                exact rhF.zret (pc := 200) dX12_two_200 rfl rfl rfl
                            · refine rhF.iconst (pc := 195) (v := 1) dX12_two_195 (by decide) ?_
                              refine rhF.goto (pc := 196) 200 dX12_two_196 (by decide) ?_
                              exact rhF.zret (pc := 200) dX12_two_200 rfl rfl rfl
                          · skip
                            refine rhF.ite (fun h34 => ?_) (fun h34 => ?_)
                            · refine rhF.tsIn (pc := 1) 187 51 dX12_two_1 (by rw [h34]; decide) (by decide) rfl (by decide) ?_
                              refine rhF.iload_n (pc := 187) dX12_two_187 1 rfl ?_
                              refine rhF.if_ne (pc := 188) 195 dX12_two_188 (by decide) (fun h35 => ?_) (fun h35 => ?_)
                              · refine rhF.iload_n (pc := 191) dX12_two_191 2 rfl ?_
                                refine rhF.if_eq (pc := 192) 199 dX12_two_192 (by decide) (fun h36 => ?_) (fun h36 => ?_)
                                · refine rhF.iconst (pc := 199) (v := 0) dX12_two_199 (by decide) ?_
                                  exact rhF.zret (pc := 200) dX12_two_200 rfl rfl rfl
                                · refine rhF.iconst (pc := 195) (v := 1) dX12_two_195 (by decide) ?_
                                  refine rhF.goto (pc := 196) 200 dX12_two_196 (by decide) ?_
                                  exact rhF.zret (pc := 200) dX12_two_200 rfl rfl rfl
                              · refine rhF.iconst (pc := 195) (v := 1) dX12_two_195 (by decide) ?_
                                refine rhF.goto (pc := 196) 200 dX12_two_196 (by decide) ?_
                                exact rhF.zret (pc := 200) dX12_two_200 rfl rfl rfl
                            · skip
                              refine rhF.ite (fun h37 => ?_) (fun h37 => ?_)
                              · refine rhF.tsIn (pc := 1) 187 52 dX12_two_1 (by rw [h37]; decide) (by decide) rfl (by decide) ?_
                                refine rhF.iload_n (pc := 187) dX12_two_187 1 rfl ?_
                                refine rhF.if_ne (pc := 188) 195 dX12_two_188 (by decide) (fun h38 => ?_) (fun h38 => ?_)
                                · refine rhF.iload_n (pc := 191) dX12_two_191 2 rfl ?_
                                  refine rhF.if_eq (pc := 192) 199 dX12_two_192 (by decide) (fun h39 => ?_) (fun h39 => ?_)
                                  · refine rhF.iconst (pc := 199) (v := 0) dX12_two_199 (by decide) ?_
                                    exact rhF.zret (pc := 200) dX12_two_200 rfl rfl rfl
                                  · refine rhF.iconst (pc := 195) (v := 1) dX12_two_195 (by decide) ?_
                                    refine rhF.goto (pc := 196) 200 dX12_two_196 (by decide) ?_
                                    exact rhF.zret (pc := 200) dX12_two_200 rfl rfl rfl
                                · refine rhF.iconst (pc := 195) (v := 1) dX12_two_195 (by decide) ?_
                                  refine rhF.goto (pc := 196) 200 dX12_two_196 (by decide) ?_
                                  exact rhF.zret (pc := 200) dX12_two_200 rfl rfl rfl
                              · skip
                                refine rhF.ite (fun h40 => ?_) (fun h40 => ?_)
                                · refine rhF.tsIn (pc := 1) 187 53 dX12_two_1 (by rw [h40]; decide) (by decide) rfl (by decide) ?_
                                  refine rhF.iload_n (pc := 187) dX12_two_187 1 rfl ?_
                                  refine rhF.if_ne (pc := 188) 195 dX12_two_188 (by decide) (fun h41 => ?_) (fun h41 => ?_)
                                  · refine rhF.iload_n (pc := 191) dX12_two_191 2 rfl ?_
                                    refine rhF.if_eq (pc := 192) 199 dX12_two_192 (by decide) (fun h42 => ?_) (fun h42 => ?_)
                                    · refine rhF.iconst (pc := 199) (v := 0) dX12_two_199 (by decide) ?_
                                      exact rhF.zret (pc := 200) dX12_two_200 rfl rfl rfl
                                    · refine rhF.iconst (pc := 195) (v := 1) dX12_two_195 (by decide) ?_
                                      refine rhF.goto (pc := 196) 200 dX12_two_196 (by decide) ?_
                                      exact rhF.zret (pc := 200) dX12_two_200 rfl rfl rfl
                                  · refine rhF.iconst (pc := 195) (v := 1) dX12_two_195 (by decide) ?_
                                    refine rhF.goto (pc := 196) 200 dX12_two_196 (by decide) ?_
                                    exact rhF.zret (pc := 200) dX12_two_200 rfl rfl rfl
                                · skip
                                  refine rhF.ite (fun h43 => ?_) (fun h43 => ?_)
                                  · refine rhF.tsIn (pc := 1) 187 54 dX12_two_1 (by rw [h43]; decide) (by decide) rfl (by decide) ?_
                                    refine rhF.iload_n (pc := 187) dX12_two_187 1 rfl ?_
                                    refine rhF.if_ne (pc := 188) 195 dX12_two_188 (by decide) (fun h44 => ?_) (fun h44 => ?_)
                                    · refine rhF.iload_n (pc := 191) dX12_two_191 2 rfl ?_
                                      refine rhF.if_eq (pc := 192) 199 dX12_two_192 (by decide) (fun h45 => ?_) (fun h45 => ?_)
                                      · refine rhF.iconst (pc := 199) (v := 0) dX12_two_199 (by decide) ?_
                                        exact rhF.zret (pc := 200) dX12_two_200 rfl rfl rfl
                                      · refine rhF.iconst (pc := 195) (v := 1) dX12_two_195 (by decide) ?_
                                        refine rhF.goto (pc := 196) 200 dX12_two_196 (by decide) ?_
                                        exact rhF.zret (pc := 200) dX12_two_200 rfl rfl rfl
                                    · refine rhF.iconst (pc := 195) (v := 1) dX12_two_195 (by decide) ?_
                                      refine rhF.goto (pc := 196) 200 dX12_two_196 (by decide) ?_
                                      exact rhF.zret (pc := 200) dX12_two_200 rfl rfl rfl
                                  · skip
                                    refine rhF.ite (fun h46 => ?_) (fun h46 => ?_)
                                    · refine rhF.tsIn (pc := 1) 187 55 dX12_two_1 (by rw [h46]; decide) (by decide) rfl (by decide) ?_
                                      refine rhF.iload_n (pc := 187) dX12_two_187 1 rfl ?_
                                      refine rhF.if_ne (pc := 188) 195 dX12_two_188 (by decide) (fun h47 => ?_) (fun h47 => ?_)
                                      · refine rhF.iload_n (pc := 191) dX12_two_191 2 rfl ?_
                                        refine rhF.if_eq (pc := 192) 199 dX12_two_192 (by decide) (fun h48 => ?_) (fun h48 => ?_)
                                        · refine rhF.iconst (pc := 199) (v := 0) dX12_two_199 (by decide) ?_
                                          exact rhF.zret (pc := 200) dX12_two_200 rfl rfl rfl
                                        · refine rhF.iconst (pc := 195) (v := 1) dX12_two_195 (by decide) ?_
                                          refine rhF.goto (pc := 196) 200 dX12_two_196 (by decide) ?_
                                          exact rhF.zret (pc := 200) dX12_two_200 rfl rfl rfl
                                      · refine rhF.iconst (pc := 195) (v := 1) dX12_two_195 (by decide) ?_
                                        refine rhF.goto (pc := 196) 200 dX12_two_196 (by decide) ?_
                                        exact rhF.zret (pc := 200) dX12_two_200 rfl rfl rfl
                                    · skip
                                      refine rhF.ite (fun h49 => ?_) (fun h49 => ?_)
                                      · refine rhF.tsIn (pc := 1) 187 56 dX12_two_1 (by rw [h49]; decide) (by decide) rfl (by decide) ?_
                                        refine rhF.iload_n (pc := 187) dX12_two_187 1 rfl ?_
                                        refine rhF.if_ne (pc := 188) 195 dX12_two_188 (by decide) (fun h50 => ?_) (fun h50 => ?_)
                                        · refine rhF.iload_n (pc := 191) dX12_two_191 2 rfl ?_
                                          refine rhF.if_eq (pc := 192) 199 dX12_two_192 (by decide) (fun h51 => ?_) (fun h51 => ?_)
                                          · refine rhF.iconst (pc := 199) (v := 0) dX12_two_199 (by decide) ?_
                                            exact rhF.zret (pc := 200) dX12_two_200 rfl rfl rfl
                                          · refine rhF.iconst (pc := 195) (v := 1) dX12_two_195 (by decide) ?_
                                            refine rhF.goto (pc := 196) 200 dX12_two_196 (by decide) ?_
                                            exact rhF.zret (pc := 200) dX12_two_200 rfl rfl rfl
                                        · refine rhF.iconst (pc := 195) (v := 1) dX12_two_195 (by decide) ?_
                                          refine rhF.goto (pc := 196) 200 dX12_two_196 (by decide) ?_
                                          exact rhF.zret (pc := 200) dX12_two_200 rfl rfl rfl
                                      · skip
                                        refine rhF.ite (fun h52 => ?_) (fun h52 => ?_)
                                        · refine rhF.tsIn (pc := 1) 187 57 dX12_two_1 (by rw [h52]; decide) (by decide) rfl (by decide) ?_
                                          refine rhF.iload_n (pc := 187) dX12_two_187 1 rfl ?_
                                          refine rhF.if_ne (pc := 188) 195 dX12_two_188 (by decide) (fun h53 => ?_) (fun h53 => ?_)
                                          · refine rhF.iload_n (pc := 191) dX12_two_191 2 rfl ?_
                                            refine rhF.if_eq (pc := 192) 199 dX12_two_192 (by decide) (fun h54 => ?_) (fun h54 => ?_)
                                            · refine rhF.iconst (pc := 199) (v := 0) dX12_two_199 (by decide) ?_
                                              exact rhF.zret (pc := 200) dX12_two_200 rfl rfl rfl
                                            · refine rhF.iconst (pc := 195) (v := 1) dX12_two_195 (by decide) ?_
                                              refine rhF.goto (pc := 196) 200 dX12_two_196 (by decide) ?_
                                              exact rhF.zret (pc := 200) dX12_two_200 rfl rfl rfl
                                          · refine rhF.iconst (pc := 195) (v := 1) dX12_two_195 (by decide) ?_
                                            refine rhF.goto (pc := 196) 200 dX12_two_196 (by decide) ?_
                                            exact rhF.zret (pc := 200) dX12_two_200 rfl rfl rfl
                                        · skip
                                          refine rhF.ite (fun h55 => ?_) (fun h55 => ?_)
                                          · refine rhF.tsIn (pc := 1) 187 58 dX12_two_1 (by rw [h55]; decide) (by decide) rfl (by decide) ?_
                                            refine rhF.iload_n (pc := 187) dX12_two_187 1 rfl ?_
                                            refine rhF.if_ne (pc := 188) 195 dX12_two_188 (by decide) (fun h56 => ?_) (fun h56 => ?_)
                                            · refine rhF.iload_n (pc := 191) dX12_two_191 2 rfl ?_
                                              refine rhF.if_eq (pc := 192) 199 dX12_two_192 (by decide) (fun h57 => ?_) (fun h57 => ?_)
                                              · refine rhF.iconst (pc := 199) (v := 0) dX12_two_199 (by decide) ?_
                                                exact rhF.zret (pc := 200) dX12_two_200 rfl rfl rfl
                                              · refine rhF.iconst (pc := 195) (v := 1) dX12_two_195 (by decide) ?_
                                                refine rhF.goto (pc := 196) 200 dX12_two_196 (by decide) ?_
                                                exact rhF.zret (pc := 200) dX12_two_200 rfl rfl rfl
                                            · refine rhF.iconst (pc := 195) (v := 1) dX12_two_195 (by decide) ?_
                                              refine rhF.goto (pc := 196) 200 dX12_two_196 (by decide) ?_
                                              exact rhF.zret (pc := 200) dX12_two_200 rfl rfl rfl
                                          · skip
                                            refine rhF.ite (fun h58 => ?_) (fun h58 => ?_)
                                            · refine rhF.tsIn (pc := 1) 187 59 dX12_two_1 (by rw [h58]; decide) (by decide) rfl (by decide) ?_
                                              refine rhF.iload_n (pc := 187) dX12_two_187 1 rfl ?_
                                              refine rhF.if_ne (pc := 188) 195 dX12_two_188 (by decide) (fun h59 => ?_) (fun h59 => ?_)
                                              · refine rhF.iload_n (pc := 191) dX12_two_191 2 rfl ?_
                                                refine rhF.if_eq (pc := 192) 199 dX12_two_192 (by decide) (fun h60 => ?_) (fun h60 => ?_)
                                                · refine rhF.iconst (pc := 199) (v := 0) dX12_two_199 (by decide) ?_
                                                  exact rhF.zret (pc := 200) dX12_two_200 rfl rfl rfl
                                                · refine rhF.iconst (pc := 195) (v := 1) dX12_two_195 (by decide) ?_
                                                  refine rhF.goto (pc := 196) 200 dX12_two_196 (by decide) ?_
                                                  exact rhF.zret (pc := 200) dX12_two_200 rfl rfl rfl
                                              · refine rhF.iconst (pc := 195) (v := 1) dX12_two_195 (by decide) ?_
                                                refine rhF.goto (pc := 196) 200 dX12_two_196 (by decide) ?_
                                                exact rhF.zret (pc := 200) dX12_two_200 rfl rfl rfl
                                            · skip
                                              refine rhF.ite (fun h61 => ?_) (fun h61 => ?_)
                                              · refine rhF.tsIn (pc := 1) 140 60 dX12_two_1 (by rw [h61]; decide) (by decide) rfl (by decide) ?_
                                                refine rhF.iload_n (pc := 140) dX12_two_140 1 rfl ?_
                                                refine rhF.iload_n (pc := 141) dX12_two_141 2 rfl ?_
                                                refine rhF.icmp_ge (pc := 142) 149 dX12_two_142 (by decide) (fun h62 => ?_) (fun h62 => ?_)
                                                · refine rhF.iconst (pc := 145) (v := 1) dX12_two_145 (by decide) ?_
                                                  refine rhF.goto (pc := 146) 150 dX12_two_146 (by decide) ?_
                                                  exact rhF.zret (pc := 150) dX12_two_150 rfl rfl rfl
                                                · refine rhF.iconst (pc := 149) (v := 0) dX12_two_149 (by decide) ?_
                                                  exact rhF.zret (pc := 150) dX12_two_150 rfl rfl rfl
                                              · skip
                                                refine rhF.ite (fun h63 => ?_) (fun h63 => ?_)
                                                · refine rhF.tsIn (pc := 1) 162 61 dX12_two_1 (by rw [h63]; decide) (by decide) rfl (by decide) ?_
                                                  refine rhF.iload_n (pc := 162) dX12_two_162 1 rfl ?_
                                                  refine rhF.iload_n (pc := 163) dX12_two_163 2 rfl ?_
                                                  refine rhF.icmp_ne (pc := 164) 171 dX12_two_164 (by decide) (fun h64 => ?_) (fun h64 => ?_)
                                                  · refine rhF.iconst (pc := 167) (v := 1) dX12_two_167 (by decide) ?_
                                                    refine rhF.goto (pc := 168) 172 dX12_two_168 (by decide) ?_
                                                    exact rhF.zret (pc := 172) dX12_two_172 rfl rfl rfl
                                                  · refine rhF.iconst (pc := 171) (v := 0) dX12_two_171 (by decide) ?_
                                                    exact rhF.zret (pc := 172) dX12_two_172 rfl rfl rfl
                                                · skip
                                                  refine rhF.ite (fun h65 => ?_) (fun h65 => ?_)
                                                  · refine rhF.tsIn (pc := 1) 151 62 dX12_two_1 (by rw [h65]; decide) (by decide) rfl (by decide) ?_
                                                    refine rhF.iload_n (pc := 151) dX12_two_151 1 rfl ?_
                                                    refine rhF.iload_n (pc := 152) dX12_two_152 2 rfl ?_
                                                    refine rhF.icmp_le (pc := 153) 160 dX12_two_153 (by decide) (fun h66 => ?_) (fun h66 => ?_)
                                                    · refine rhF.iconst (pc := 156) (v := 1) dX12_two_156 (by decide) ?_
                                                      refine rhF.goto (pc := 157) 161 dX12_two_157 (by decide) ?_
                                                      exact rhF.zret (pc := 161) dX12_two_161 rfl rfl rfl
                                                    · refine rhF.iconst (pc := 160) (v := 0) dX12_two_160 (by decide) ?_
                                                      exact rhF.zret (pc := 161) dX12_two_161 rfl rfl rfl
                                                  · skip
                                                    have zh1 := rhne h1 (n := 38) (by decide)
                                                    have zh4 := rhne h4 (n := 39) (by decide)
                                                    have zh7 := rhne h7 (n := 40) (by decide)
                                                    have zh10 := rhne h10 (n := 41) (by decide)
                                                    have zh13 := rhne h13 (n := 42) (by decide)
                                                    have zh14 := rhne h14 (n := 43) (by decide)
                                                    have zh15 := rhne h15 (n := 44) (by decide)
                                                    have zh18 := rhne h18 (n := 45) (by decide)
                                                    have zh19 := rhne h19 (n := 46) (by decide)
                                                    have zh22 := rhne h22 (n := 47) (by decide)
                                                    have zh25 := rhne h25 (n := 48) (by decide)
                                                    have zh28 := rhne h28 (n := 49) (by decide)
                                                    have zh31 := rhne h31 (n := 50) (by decide)
                                                    have zh34 := rhne h34 (n := 51) (by decide)
                                                    have zh37 := rhne h37 (n := 52) (by decide)
                                                    have zh40 := rhne h40 (n := 53) (by decide)
                                                    have zh43 := rhne h43 (n := 54) (by decide)
                                                    have zh46 := rhne h46 (n := 55) (by decide)
                                                    have zh49 := rhne h49 (n := 56) (by decide)
                                                    have zh52 := rhne h52 (n := 57) (by decide)
                                                    have zh55 := rhne h55 (n := 58) (by decide)
                                                    have zh58 := rhne h58 (n := 59) (by decide)
                                                    have zh61 := rhne h61 (n := 60) (by decide)
                                                    have zh63 := rhne h63 (n := 61) (by decide)
                                                    have zh65 := rhne h65 (n := 62) (by decide)
                                                    refine rhF.tsOut (pc := 1) 187 dX12_two_1 (by omega) (by decide) ?_
                                                    refine rhF.iload_n (pc := 187) dX12_two_187 1 rfl ?_
                                                    refine rhF.if_ne (pc := 188) 195 dX12_two_188 (by decide) (fun h67 => ?_) (fun h67 => ?_)
                                                    · refine rhF.iload_n (pc := 191) dX12_two_191 2 rfl ?_
                                                      refine rhF.if_eq (pc := 192) 199 dX12_two_192 (by decide) (fun h68 => ?_) (fun h68 => ?_)
                                                      · refine rhF.iconst (pc := 199) (v := 0) dX12_two_199 (by decide) ?_
                                                        exact rhF.zret (pc := 200) dX12_two_200 rfl rfl rfl
                                                      · refine rhF.iconst (pc := 195) (v := 1) dX12_two_195 (by decide) ?_
                                                        refine rhF.goto (pc := 196) 200 dX12_two_196 (by decide) ?_
                                                        exact rhF.zret (pc := 200) dX12_two_200 rfl rfl rfl
                                                    · refine rhF.iconst (pc := 195) (v := 1) dX12_two_195 (by decide) ?_
                                                      refine rhF.goto (pc := 196) 200 dX12_two_196 (by decide) ?_
                                                      exact rhF.zret (pc := 200) dX12_two_200 rfl rfl rfl
theorem c_X12_two (E : rhE) (Γ : rhG) (M : rhM) (v0 : Int32) (v1 : Int32) (v2 : Int32) : ∀ a, f_X12_two Γ M v0 v1 v2 = some a → rhC E 1 yX12_two cX12_two 3 (some .int) [rhI v0, rhI v1, rhI v2] Γ M ((rhe0I Γ M) a) := rhF.met (by decide +kernel) (Nat.le_of_ble_eq_true rfl) (b_X12_two v0 v1 v2)
def f_X12_comes_82 (k149 : rhM → Nat → Int32 → Int32 → Int32 → Int32 → Int32 → Option (Int32 × rhM)) (Γ : rhG) (M : rhM) (v0 : Nat) (v1 : Int32) (v2 : Int32) (v3 : Int32) (v4 : Int32) (v5 : Int32) (s0 : Nat) (s1 : Int32) (s2 : Int32) : Option (Int32 × rhM) :=
  rhck (Γ.2.2.1 s0 = 15) <|
  rhck (0 ≤ (s1).toInt ∧ (s1).toInt < (Γ.2.2.2 s0 : Nat)) <|
  let M19 := rhsi M s0 (s1 : Int32).toNatClampNeg s2
  k149 M19 v0 v1 v2 v3 v4 v5
def f_X12_comes_149 (k27 : rhM → Nat → Int32 → Int32 → Int32 → Int32 → Int32 → Option (Int32 × rhM)) (Γ : rhG) (M : rhM) (v0 : Nat) (v1 : Int32) (v2 : Int32) (v3 : Int32) (v4 : Int32) (v5 : Int32) : Option (Int32 × rhM) :=
  let x20 : Int32 := v5 + 1
  k27 M v0 v1 v2 v3 v4 x20
def f_X12_comes_27 (Γ : rhG) : Nat → rhM → Nat → Int32 → Int32 → Int32 → Int32 → Int32 → Option (Int32 × rhM)
  | 0, _, _, _, _, _, _, _ => none
  | n + 1, M, v0, v1, v2, v3, v4, v5 =>
    rhck (Γ.2.2.1 v0 = 13) <|
    rhck (Γ.2.2.1 (M.2.2 v0 17) = 15) <|
    rhck (0 ≤ (M.1 v0 34).toInt ∧ (M.1 v0 34).toInt < (Γ.2.2.2 (M.2.2 v0 17) : Nat)) <|
    if v5 < (M.1 (M.2.2 v0 17) (M.1 v0 34).toNatClampNeg) then
      (rhck (Γ.2.2.1 (M.2.2 v0 29) = 15) <|
      rhck (0 ≤ (v5).toInt ∧ (v5).toInt < (Γ.2.2.2 (M.2.2 v0 29) : Nat)) <|
      let x12 := M.1 (M.2.2 v0 29) v5.toNatClampNeg
      if x12 = 126 then
        (rhck (Γ.2.2.1 (M.2.2 v0 33) = 15) <|
        rhck (0 ≤ (v4 - 1).toInt ∧ (v4 - 1).toInt < (Γ.2.2.2 (M.2.2 v0 33) : Nat)) <|
        if (M.1 (M.2.2 v0 33) (v4 - 1).toNatClampNeg) = 0 then
          (f_X12_comes_82 (f_X12_comes_149 (f_X12_comes_27 Γ n) Γ) Γ M v0 v1 v2 v3 v4 v5 (M.2.2 v0 33) (v4 - 1) 1)
        else
          f_X12_comes_82 (f_X12_comes_149 (f_X12_comes_27 Γ n) Γ) Γ M v0 v1 v2 v3 v4 v5 (M.2.2 v0 33) (v4 - 1) 0)
      else
        (f_X12_isLetter Γ M x12).bind fun r21 =>
        if r21 = 0 then
          (let x23 : Int32 := v4 + (-1)
          rhck (Γ.2.2.1 (M.2.2 v0 33) = 15) <|
          rhck (0 ≤ (x23 - 1).toInt ∧ (x23 - 1).toInt < (Γ.2.2.2 (M.2.2 v0 33) : Nat)) <|
          rhck (0 ≤ (x23).toInt ∧ (x23).toInt < (Γ.2.2.2 (M.2.2 v0 33) : Nat)) <|
          (f_X12_two Γ M x12 (M.1 (M.2.2 v0 33) (x23 - 1).toNatClampNeg) (M.1 (M.2.2 v0 33) x23.toNatClampNeg)).bind fun r27 =>
          let M28 := rhsi M (M.2.2 v0 33) (x23 - 1 : Int32).toNatClampNeg r27
          f_X12_comes_149 (f_X12_comes_27 Γ n) Γ M28 v0 v1 v2 v3 x23 v5)
        else
          (f_X12_amount Γ M v0 v5 v1 v2 v3).bind fun r29 =>
          rhck (Γ.2.2.1 (M.2.2 v0 33) = 15) <|
          rhck (0 ≤ (v4).toInt ∧ (v4).toInt < (Γ.2.2.2 (M.2.2 v0 33) : Nat)) <|
          let M32 := rhsi M (M.2.2 v0 33) (v4 : Int32).toNatClampNeg r29
          let x33 : Int32 := v4 + 1
          f_X12_comes_149 (f_X12_comes_27 Γ n) Γ M32 v0 v1 v2 v3 x33 v5)
    else
      rhck (Γ.2.2.1 (M.2.2 v0 33) = 15) <|
      rhck (0 ≤ (0 : Int32).toInt ∧ (0 : Int32).toInt < (Γ.2.2.2 (M.2.2 v0 33) : Nat)) <|
      some ((M.1 (M.2.2 v0 33) (0 : Int32).toNatClampNeg, M))
def f_X12_comes (Γ : rhG) (M : rhM) (v0 : Nat) (v1 : Int32) (v2 : Int32) (v3 : Int32) : Option (Int32 × rhM) :=
  rhck (Γ.2.2.1 v0 = 13) <|
  rhck (Γ.2.2.1 (M.2.2 v0 25) = 17) <|
  rhck (0 ≤ (M.1 v0 34).toInt ∧ (M.1 v0 34).toInt < (Γ.2.2.2 (M.2.2 v0 25) : Nat)) <|
  if (M.1 (M.2.2 v0 25) (M.1 v0 34).toNatClampNeg) = 0 then
    (some ((1, M)))
  else
    let x5 := 500 * (M.1 v0 34)
    f_X12_comes_27 Γ rhFU M v0 v1 v2 v3 0 x5
set_option maxHeartbeats 4000000 in
set_option maxRecDepth 100000 in
theorem b_X12_comes_82 {E : rhE} {Γ : rhG} {k149 : rhM → Nat → Int32 → Int32 → Int32 → Int32 → Int32 → Option (Int32 × rhM)} (hk149 : ∀ (M : rhM) (v0 : Nat) (v1 : Int32) (v2 : Int32) (v3 : Int32) (v4 : Int32) (v5 : Int32), rhF E 7 7 yX12_comes cX12_comes (some .int) Γ (rhe1I Γ) (k149 M v0 v1 v2 v3 v4 v5) 149 [(0, rhR v0), (1, rhI v1), (2, rhI v2), (3, rhI v3), (4, rhI v4), (5, rhI v5)] [] Γ M) : ∀ (M : rhM) (v0 : Nat) (v1 : Int32) (v2 : Int32) (v3 : Int32) (v4 : Int32) (v5 : Int32) (s0 : Nat) (s1 : Int32) (s2 : Int32), rhF E 7 7 yX12_comes cX12_comes (some .int) Γ (rhe1I Γ) (f_X12_comes_82 k149 Γ M v0 v1 v2 v3 v4 v5 s0 s1 s2) 82 [(0, rhR v0), (1, rhI v1), (2, rhI v2), (3, rhI v3), (4, rhI v4), (5, rhI v5)] [rhI s2, rhI s1, rhR s0] Γ M := by
  intro M v0 v1 v2 v3 v4 v5 s0 s1 s2
  rw [f_X12_comes_82]
  refine rhF.ck (fun h17 => ?_)
  refine rhF.ck (fun h18 => ?_)
  refine rhF.iast (pc := 82) dX12_comes_82 h17 h18 ?_
  refine rhF.goto (pc := 83) 149 dX12_comes_83 (by decide) ?_
  exact hk149 _ _ _ _ _ _ _
set_option maxHeartbeats 4000000 in
set_option maxRecDepth 100000 in
theorem b_X12_comes_149 {E : rhE} {Γ : rhG} {k27 : rhM → Nat → Int32 → Int32 → Int32 → Int32 → Int32 → Option (Int32 × rhM)} (hk27 : ∀ (M : rhM) (v0 : Nat) (v1 : Int32) (v2 : Int32) (v3 : Int32) (v4 : Int32) (v5 : Int32), rhF E 7 7 yX12_comes cX12_comes (some .int) Γ (rhe1I Γ) (k27 M v0 v1 v2 v3 v4 v5) 27 [(0, rhR v0), (1, rhI v1), (2, rhI v2), (3, rhI v3), (4, rhI v4), (5, rhI v5)] [] Γ M) : ∀ (M : rhM) (v0 : Nat) (v1 : Int32) (v2 : Int32) (v3 : Int32) (v4 : Int32) (v5 : Int32), rhF E 7 7 yX12_comes cX12_comes (some .int) Γ (rhe1I Γ) (f_X12_comes_149 k27 Γ M v0 v1 v2 v3 v4 v5) 149 [(0, rhR v0), (1, rhI v1), (2, rhI v2), (3, rhI v3), (4, rhI v4), (5, rhI v5)] [] Γ M := by
  intro M v0 v1 v2 v3 v4 v5
  rw [f_X12_comes_149]
  refine rhF.iinc (pc := 149) (L' := [(5, rhI _), (0, rhR _), (1, rhI _), (2, rhI _), (3, rhI _), (4, rhI _)]) dX12_comes_149 5 rfl rfl (by decide) rfl ?_
  refine rhF.goto (pc := 152) 27 dX12_comes_152 (by decide) ?_
  refine rhF.sub [1, 2, 3, 4, 5, 0] rfl ?_
  exact hk27 _ _ _ _ _ _ _
set_option maxHeartbeats 4000000 in
set_option maxRecDepth 100000 in
theorem b_X12_comes_27 {E : rhE} {Γ : rhG} : ∀ (n : Nat) (M : rhM) (v0 : Nat) (v1 : Int32) (v2 : Int32) (v3 : Int32) (v4 : Int32) (v5 : Int32), rhF E 7 7 yX12_comes cX12_comes (some .int) Γ (rhe1I Γ) (f_X12_comes_27 Γ n M v0 v1 v2 v3 v4 v5) 27 [(0, rhR v0), (1, rhI v1), (2, rhI v2), (3, rhI v3), (4, rhI v4), (5, rhI v5)] [] Γ M := by
  intro n
  induction n with
  | zero => intro M v0 v1 v2 v3 v4 v5; rw [f_X12_comes_27]; exact rhF.nope
  | succ n ih =>
    intro M v0 v1 v2 v3 v4 v5
    rw [f_X12_comes_27]
    refine rhF.iload (pc := 27) dX12_comes_27 5 rfl ?_
    refine rhF.aload_n (pc := 29) dX12_comes_29 0 rfl ?_
    refine rhF.ck (fun h6 => ?_)
    refine rhF.get (pc := 30) (rhR _) dX12_comes_30 fl_X12_39 h6 rfl ?_
    refine rhF.aload_n (pc := 33) dX12_comes_33 0 rfl ?_
    refine rhF.get (pc := 34) (rhI _) dX12_comes_34 fl_X12_327 h6 rfl ?_
    refine rhF.ck (fun h7 => ?_)
    refine rhF.ck (fun h8 => ?_)
    refine rhF.iald (pc := 37) dX12_comes_37 h7 h8 ?_
    refine rhF.icmp_ge (pc := 38) 155 dX12_comes_38 (by decide) (fun h9 => ?_) (fun h9 => ?_)
    · refine rhF.aload_n (pc := 41) dX12_comes_41 0 rfl ?_
      refine rhF.get (pc := 42) (rhR _) dX12_comes_42 fl_X12_77 h6 rfl ?_
      refine rhF.iload (pc := 45) dX12_comes_45 5 rfl ?_
      refine rhF.ck (fun h10 => ?_)
      refine rhF.ck (fun h11 => ?_)
      refine rhF.iald (pc := 47) dX12_comes_47 h10 h11 ?_
      refine rhF.istore (pc := 48) (L' := [(6, rhI _), (0, rhR _), (1, rhI _), (2, rhI _), (3, rhI _), (4, rhI _), (5, rhI _)]) dX12_comes_48 (by decide) rfl ?_
      refine rhF.iload (pc := 50) dX12_comes_50 0 rfl ?_
      refine rhF.bipush (pc := 52) (v := 126) dX12_comes_52 (by decide) ?_
      refine rhF.icmp_ne (pc := 54) 86 dX12_comes_54 (by decide) (fun h13 => ?_) (fun h13 => ?_)
      · refine rhF.aload_n (pc := 57) dX12_comes_57 1 rfl ?_
        refine rhF.get (pc := 58) (rhR _) dX12_comes_58 fl_X12_89 h6 rfl ?_
        refine rhF.iload (pc := 61) dX12_comes_61 5 rfl ?_
        refine rhF.iconst (pc := 63) (v := 1) dX12_comes_63 (by decide) ?_
        refine rhF.isub (pc := 64) dX12_comes_64 ?_
        refine rhF.aload_n (pc := 65) dX12_comes_65 1 rfl ?_
        refine rhF.get (pc := 66) (rhR _) dX12_comes_66 fl_X12_89 h6 rfl ?_
        refine rhF.iload (pc := 69) dX12_comes_69 5 rfl ?_
        refine rhF.iconst (pc := 71) (v := 1) dX12_comes_71 (by decide) ?_
        refine rhF.isub (pc := 72) dX12_comes_72 ?_
        refine rhF.ck (fun h14 => ?_)
        refine rhF.ck (fun h15 => ?_)
        refine rhF.iald (pc := 73) dX12_comes_73 h14 h15 ?_
        refine rhF.if_ne (pc := 74) 81 dX12_comes_74 (by decide) (fun h16 => ?_) (fun h16 => ?_)
        · refine rhF.iconst (pc := 77) (v := 1) dX12_comes_77 (by decide) ?_
          refine rhF.goto (pc := 78) 82 dX12_comes_78 (by decide) ?_
          refine rhF.sub [1, 2, 3, 4, 5, 6] rfl ?_
          exact (b_X12_comes_82 (b_X12_comes_149 ih)) _ _ _ _ _ _ _ _ _ _
        · refine rhF.iconst (pc := 81) (v := 0) dX12_comes_81 (by decide) ?_
          refine rhF.sub [1, 2, 3, 4, 5, 6] rfl ?_
          exact (b_X12_comes_82 (b_X12_comes_149 ih)) _ _ _ _ _ _ _ _ _ _
      · refine rhF.iload (pc := 86) dX12_comes_86 0 rfl ?_
        refine rhF.callS (pc := 88) (embc := rhe0I _ _) [rhI _] dX12_comes_88 ml_X12_269 ms_X12_isLetter (c_X12_isLetter _ _ _ _) (by decide) (by decide) rfl (Nat.le_of_ble_eq_true rfl) (fun r21 _ => ?_)
        refine rhF.if_eq (pc := 91) 116 dX12_comes_91 (by decide) (fun h22 => ?_) (fun h22 => ?_)
        · refine rhF.iinc (pc := 116) (L' := [(4, rhI _), (6, rhI _), (0, rhR _), (1, rhI _), (2, rhI _), (3, rhI _), (5, rhI _)]) dX12_comes_116 5 rfl rfl (by decide) rfl ?_
          refine rhF.aload_n (pc := 119) dX12_comes_119 2 rfl ?_
          refine rhF.get (pc := 120) (rhR _) dX12_comes_120 fl_X12_89 h6 rfl ?_
          refine rhF.iload (pc := 123) dX12_comes_123 0 rfl ?_
          refine rhF.iconst (pc := 125) (v := 1) dX12_comes_125 (by decide) ?_
          refine rhF.isub (pc := 126) dX12_comes_126 ?_
          refine rhF.iload (pc := 127) dX12_comes_127 1 rfl ?_
          refine rhF.aload_n (pc := 129) dX12_comes_129 2 rfl ?_
          refine rhF.get (pc := 130) (rhR _) dX12_comes_130 fl_X12_89 h6 rfl ?_
          refine rhF.iload (pc := 133) dX12_comes_133 0 rfl ?_
          refine rhF.iconst (pc := 135) (v := 1) dX12_comes_135 (by decide) ?_
          refine rhF.isub (pc := 136) dX12_comes_136 ?_
          refine rhF.ck (fun h24 => ?_)
          refine rhF.ck (fun h25 => ?_)
          refine rhF.iald (pc := 137) dX12_comes_137 h24 h25 ?_
          refine rhF.aload_n (pc := 138) dX12_comes_138 2 rfl ?_
          refine rhF.get (pc := 139) (rhR _) dX12_comes_139 fl_X12_89 h6 rfl ?_
          refine rhF.iload (pc := 142) dX12_comes_142 0 rfl ?_
          refine rhF.ck (fun h26 => ?_)
          refine rhF.iald (pc := 144) dX12_comes_144 h24 h26 ?_
          refine rhF.callS (pc := 145) (embc := rhe0I _ _) [rhI _, rhI _, rhI _] dX12_comes_145 ml_X12_442 ms_X12_two (c_X12_two _ _ _ _ _ _) (by decide) (by decide) rfl (Nat.le_of_ble_eq_true rfl) (fun r27 _ => ?_)
          refine rhF.iast (pc := 148) dX12_comes_148 h24 h25 ?_
          refine rhF.sub [2, 3, 4, 5, 0, 6] rfl ?_
          exact (b_X12_comes_149 ih) _ _ _ _ _ _ _
        · refine rhF.aload_n (pc := 94) dX12_comes_94 1 rfl ?_
          refine rhF.get (pc := 95) (rhR _) dX12_comes_95 fl_X12_89 h6 rfl ?_
          refine rhF.iload (pc := 98) dX12_comes_98 5 rfl ?_
          refine rhF.aload_n (pc := 100) dX12_comes_100 1 rfl ?_
          refine rhF.iload (pc := 101) dX12_comes_101 6 rfl ?_
          refine rhF.iload_n (pc := 103) dX12_comes_103 2 rfl ?_
          refine rhF.iload_n (pc := 104) dX12_comes_104 3 rfl ?_
          refine rhF.iload_n (pc := 105) dX12_comes_105 4 rfl ?_
          refine rhF.callV (pc := 106) (ci := 12) (embc := rhe0I _ _) [rhI _, rhI _, rhI _, rhI _] dX12_comes_106 ml_X12_438 mv_X12_amount ⟨_, rfl, rfl⟩ h6 (c_X12_amount _ _ _ _ _ _ _ _) (by decide) (by decide) rfl (Nat.le_of_ble_eq_true rfl) (fun r29 _ => ?_)
          refine rhF.ck (fun h30 => ?_)
          refine rhF.ck (fun h31 => ?_)
          refine rhF.iast (pc := 109) dX12_comes_109 h30 h31 ?_
          refine rhF.iinc (pc := 110) (L' := [(4, rhI _), (6, rhI _), (0, rhR _), (1, rhI _), (2, rhI _), (3, rhI _), (5, rhI _)]) dX12_comes_110 5 rfl rfl (by decide) rfl ?_
          refine rhF.goto (pc := 113) 149 dX12_comes_113 (by decide) ?_
          refine rhF.sub [2, 3, 4, 5, 0, 6] rfl ?_
          exact (b_X12_comes_149 ih) _ _ _ _ _ _ _
    · refine rhF.aload_n (pc := 155) dX12_comes_155 0 rfl ?_
      refine rhF.get (pc := 156) (rhR _) dX12_comes_156 fl_X12_89 h6 rfl ?_
      refine rhF.iconst (pc := 159) (v := 0) dX12_comes_159 (by decide) ?_
      refine rhF.ck (fun h34 => ?_)
      refine rhF.ck (fun h35 => ?_)
      refine rhF.iald (pc := 160) dX12_comes_160 h34 h35 ?_
      exact rhF.zret (pc := 161) dX12_comes_161 rfl rfl rfl
set_option maxHeartbeats 4000000 in
set_option maxRecDepth 100000 in
theorem b_X12_comes {E : rhE} {Γ : rhG} : ∀ (M : rhM) (v0 : Nat) (v1 : Int32) (v2 : Int32) (v3 : Int32), rhF E 7 7 yX12_comes cX12_comes (some .int) Γ (rhe1I Γ) (f_X12_comes Γ M v0 v1 v2 v3) 0 [(0, rhR v0), (1, rhI v1), (2, rhI v2), (3, rhI v3)] [] Γ M := by
  intro M v0 v1 v2 v3
  rw [f_X12_comes]
  refine rhF.aload_n (pc := 0) dX12_comes_0 0 rfl ?_
  refine rhF.ck (fun h1 => ?_)
  refine rhF.get (pc := 1) (rhR _) dX12_comes_1 fl_X12_64 h1 rfl ?_
  refine rhF.aload_n (pc := 4) dX12_comes_4 0 rfl ?_
  refine rhF.get (pc := 5) (rhI _) dX12_comes_5 fl_X12_327 h1 rfl ?_
  refine rhF.ck (fun h2 => ?_)
  refine rhF.ck (fun h3 => ?_)
  refine rhF.zald (pc := 8) dX12_comes_8 h2 h3 ?_
  refine rhF.if_ne (pc := 9) 14 dX12_comes_9 (by decide) (fun h4 => ?_) (fun h4 => ?_)
  · refine rhF.iconst (pc := 12) (v := 1) dX12_comes_12 (by decide) ?_
    exact rhF.zret (pc := 13) dX12_comes_13 rfl rfl rfl
  · refine rhF.iconst (pc := 14) (v := 0) dX12_comes_14 (by decide) ?_
    refine rhF.istore (pc := 15) (L' := [(4, rhI _), (0, rhR _), (1, rhI _), (2, rhI _), (3, rhI _)]) dX12_comes_15 (by decide) rfl ?_
    refine rhF.sipush (pc := 17) (v := 500) dX12_comes_17 (by decide) ?_
    refine rhF.aload_n (pc := 20) dX12_comes_20 1 rfl ?_
    refine rhF.get (pc := 21) (rhI _) dX12_comes_21 fl_X12_327 h1 rfl ?_
    refine rhF.imul (pc := 24) dX12_comes_24 ?_
    refine rhF.istore (pc := 25) (L' := [(5, rhI _), (4, rhI _), (0, rhR _), (1, rhI _), (2, rhI _), (3, rhI _)]) dX12_comes_25 (by decide) rfl ?_
    refine rhF.sub [2, 3, 4, 5, 1, 0] rfl ?_
    exact (b_X12_comes_27 rhFU) _ _ _ _ _ _ _
theorem c_X12_comes (E : rhE) (Γ : rhG) (M : rhM) (v0 : Nat) (v1 : Int32) (v2 : Int32) (v3 : Int32) : ∀ a, f_X12_comes Γ M v0 v1 v2 v3 = some a → rhC E 7 yX12_comes cX12_comes 7 (some .int) [rhR v0, rhI v1, rhI v2, rhI v3] Γ M ((rhe1I Γ) a) := rhF.met (by decide +kernel) (Nat.le_of_ble_eq_true rfl) (b_X12_comes M v0 v1 v2 v3)
def f_X12_layNow_2 (k26 : rhM → Nat → Option (rhM)) (Γ : rhG) : Nat → rhM → Nat → Int32 → Option (rhM)
  | 0, _, _, _ => none
  | n + 1, M, v0, v1 =>
    if v1 < 8 then
      (rhck (Γ.2.2.1 v0 = 13) <|
      rhck (Γ.2.2.1 (M.2.2 v0 42) = 15) <|
      rhck (0 ≤ (v1).toInt ∧ (v1).toInt < (Γ.2.2.2 (M.2.2 v0 42) : Nat)) <|
      rhck (Γ.2.2.1 (M.2.2 v0 39) = 15) <|
      rhck (0 ≤ (v1).toInt ∧ (v1).toInt < (Γ.2.2.2 (M.2.2 v0 39) : Nat)) <|
      let M7 := rhsi M (M.2.2 v0 39) (v1 : Int32).toNatClampNeg (M.1 (M.2.2 v0 42) v1.toNatClampNeg)
      let x8 : Int32 := v1 + 1
      f_X12_layNow_2 k26 Γ n M7 v0 x8)
    else
      k26 M v0
def f_X12_layNow_28 (Γ : rhG) : Nat → rhM → Nat → Int32 → Option (rhM)
  | 0, _, _, _ => none
  | n + 1, M, v0, v1 =>
    if v1 < 5 then
      (rhck (Γ.2.2.1 v0 = 13) <|
      rhck (Γ.2.2.1 (M.2.2 v0 43) = 15) <|
      rhck (0 ≤ (v1).toInt ∧ (v1).toInt < (Γ.2.2.2 (M.2.2 v0 43) : Nat)) <|
      rhck (Γ.2.2.1 (M.2.2 v0 40) = 15) <|
      rhck (0 ≤ (v1).toInt ∧ (v1).toInt < (Γ.2.2.2 (M.2.2 v0 40) : Nat)) <|
      let M15 := rhsi M (M.2.2 v0 40) (v1 : Int32).toNatClampNeg (M.1 (M.2.2 v0 43) v1.toNatClampNeg)
      let x16 : Int32 := v1 + 1
      f_X12_layNow_28 Γ n M15 v0 x16)
    else
      some M
def f_X12_layNow_26 (Γ : rhG) (M : rhM) (v0 : Nat) : Option (rhM) :=
  f_X12_layNow_28 Γ rhFU M v0 0
def f_X12_layNow (Γ : rhG) (M : rhM) (v0 : Nat) : Option (rhM) :=
  f_X12_layNow_2 (f_X12_layNow_26 Γ) Γ rhFU M v0 0
set_option maxHeartbeats 4000000 in
set_option maxRecDepth 100000 in
theorem b_X12_layNow_2 {E : rhE} {Γ : rhG} {k26 : rhM → Nat → Option (rhM)} (hk26 : ∀ (M : rhM) (v0 : Nat), rhF E 1 2 yX12_layNow cX12_layNow none Γ (rhe1U Γ) (k26 M v0) 26 [(0, rhR v0)] [] Γ M) : ∀ (n : Nat) (M : rhM) (v0 : Nat) (v1 : Int32), rhF E 1 2 yX12_layNow cX12_layNow none Γ (rhe1U Γ) (f_X12_layNow_2 k26 Γ n M v0 v1) 2 [(0, rhR v0), (1, rhI v1)] [] Γ M := by
  intro n
  induction n with
  | zero => intro M v0 v1; rw [f_X12_layNow_2]; exact rhF.nope
  | succ n ih =>
    intro M v0 v1
    rw [f_X12_layNow_2]
    refine rhF.iload_n (pc := 2) dX12_layNow_2 1 rfl ?_
    refine rhF.bipush (pc := 3) (v := 8) dX12_layNow_3 (by decide) ?_
    refine rhF.icmp_ge (pc := 5) 26 dX12_layNow_5 (by decide) (fun h1 => ?_) (fun h1 => ?_)
    · refine rhF.aload_n (pc := 8) dX12_layNow_8 0 rfl ?_
      refine rhF.ck (fun h2 => ?_)
      refine rhF.get (pc := 9) (rhR _) dX12_layNow_9 fl_X12_92 h2 rfl ?_
      refine rhF.iload_n (pc := 12) dX12_layNow_12 1 rfl ?_
      refine rhF.aload_n (pc := 13) dX12_layNow_13 0 rfl ?_
      refine rhF.get (pc := 14) (rhR _) dX12_layNow_14 fl_X12_101 h2 rfl ?_
      refine rhF.iload_n (pc := 17) dX12_layNow_17 1 rfl ?_
      refine rhF.ck (fun h3 => ?_)
      refine rhF.ck (fun h4 => ?_)
      refine rhF.iald (pc := 18) dX12_layNow_18 h3 h4 ?_
      refine rhF.ck (fun h5 => ?_)
      refine rhF.ck (fun h6 => ?_)
      refine rhF.iast (pc := 19) dX12_layNow_19 h5 h6 ?_
      refine rhF.iinc (pc := 20) (L' := [(1, rhI _), (0, rhR _)]) dX12_layNow_20 1 rfl rfl (by decide) rfl ?_
      refine rhF.goto (pc := 23) 2 dX12_layNow_23 (by decide) ?_
      refine rhF.sub [1, 0] rfl ?_
      exact ih _ _ _
    · refine rhF.sub [0] rfl ?_
      exact hk26 _ _
set_option maxHeartbeats 4000000 in
set_option maxRecDepth 100000 in
theorem b_X12_layNow_28 {E : rhE} {Γ : rhG} : ∀ (n : Nat) (M : rhM) (v0 : Nat) (v1 : Int32), rhF E 1 2 yX12_layNow cX12_layNow none Γ (rhe1U Γ) (f_X12_layNow_28 Γ n M v0 v1) 28 [(0, rhR v0), (1, rhI v1)] [] Γ M := by
  intro n
  induction n with
  | zero => intro M v0 v1; rw [f_X12_layNow_28]; exact rhF.nope
  | succ n ih =>
    intro M v0 v1
    rw [f_X12_layNow_28]
    refine rhF.iload_n (pc := 28) dX12_layNow_28 1 rfl ?_
    refine rhF.iconst (pc := 29) (v := 5) dX12_layNow_29 (by decide) ?_
    refine rhF.icmp_ge (pc := 30) 51 dX12_layNow_30 (by decide) (fun h9 => ?_) (fun h9 => ?_)
    · refine rhF.aload_n (pc := 33) dX12_layNow_33 0 rfl ?_
      refine rhF.ck (fun h10 => ?_)
      refine rhF.get (pc := 34) (rhR _) dX12_layNow_34 fl_X12_95 h10 rfl ?_
      refine rhF.iload_n (pc := 37) dX12_layNow_37 1 rfl ?_
      refine rhF.aload_n (pc := 38) dX12_layNow_38 0 rfl ?_
      refine rhF.get (pc := 39) (rhR _) dX12_layNow_39 fl_X12_104 h10 rfl ?_
      refine rhF.iload_n (pc := 42) dX12_layNow_42 1 rfl ?_
      refine rhF.ck (fun h11 => ?_)
      refine rhF.ck (fun h12 => ?_)
      refine rhF.iald (pc := 43) dX12_layNow_43 h11 h12 ?_
      refine rhF.ck (fun h13 => ?_)
      refine rhF.ck (fun h14 => ?_)
      refine rhF.iast (pc := 44) dX12_layNow_44 h13 h14 ?_
      refine rhF.iinc (pc := 45) (L' := [(1, rhI _), (0, rhR _)]) dX12_layNow_45 1 rfl rfl (by decide) rfl ?_
      refine rhF.goto (pc := 48) 28 dX12_layNow_48 (by decide) ?_
      refine rhF.sub [1, 0] rfl ?_
      exact ih _ _ _
    · exact rhF.vret (pc := 51) dX12_layNow_51 rfl rfl
set_option maxHeartbeats 4000000 in
set_option maxRecDepth 100000 in
theorem b_X12_layNow_26 {E : rhE} {Γ : rhG} : ∀ (M : rhM) (v0 : Nat), rhF E 1 2 yX12_layNow cX12_layNow none Γ (rhe1U Γ) (f_X12_layNow_26 Γ M v0) 26 [(0, rhR v0)] [] Γ M := by
  intro M v0
  rw [f_X12_layNow_26]
  refine rhF.iconst (pc := 26) (v := 0) dX12_layNow_26 (by decide) ?_
  refine rhF.istore_n (pc := 27) (L' := [(1, rhI _), (0, rhR _)]) dX12_layNow_27 (by decide) rfl ?_
  refine rhF.sub [1, 0] rfl ?_
  exact (b_X12_layNow_28 rhFU) _ _ _
set_option maxHeartbeats 4000000 in
set_option maxRecDepth 100000 in
theorem b_X12_layNow {E : rhE} {Γ : rhG} : ∀ (M : rhM) (v0 : Nat), rhF E 1 2 yX12_layNow cX12_layNow none Γ (rhe1U Γ) (f_X12_layNow Γ M v0) 0 [(0, rhR v0)] [] Γ M := by
  intro M v0
  rw [f_X12_layNow]
  refine rhF.iconst (pc := 0) (v := 0) dX12_layNow_0 (by decide) ?_
  refine rhF.istore_n (pc := 1) (L' := [(1, rhI _), (0, rhR _)]) dX12_layNow_1 (by decide) rfl ?_
  refine rhF.sub [1, 0] rfl ?_
  exact (b_X12_layNow_2 (b_X12_layNow_26) rhFU) _ _ _
theorem c_X12_layNow (E : rhE) (Γ : rhG) (M : rhM) (v0 : Nat) : ∀ a, f_X12_layNow Γ M v0 = some a → rhC E 1 yX12_layNow cX12_layNow 2 none [rhR v0] Γ M ((rhe1U Γ) a) := rhF.met (by decide +kernel) (Nat.le_of_ble_eq_true rfl) (b_X12_layNow M v0)
def f_X12_asked (Γ : rhG) (M : rhM) (v0 : Nat) (v1 : Int32) (v2 : Int32) (v3 : Int32) : Option (Int32 × rhM) :=
  rhck (Γ.2.2.1 v0 = 13) <|
  (f_X12_layNow Γ M v0).bind fun r2 =>
  (f_X12_canBe Γ r2 v0 v1 v2 v3).bind fun r3 =>
  if r3 = 0 then
    (some (((-1000000), r2)))
  else
    (f_X12_comes Γ r2 v0 v1 v2 v3).bind fun r5 =>
    some ((r5.1, r5.2))
set_option maxHeartbeats 4000000 in
set_option maxRecDepth 100000 in
theorem b_X12_asked {E : rhE} {Γ : rhG} : ∀ (M : rhM) (v0 : Nat) (v1 : Int32) (v2 : Int32) (v3 : Int32), rhF E 8 4 yX12_asked cX12_asked (some .int) Γ (rhe1I Γ) (f_X12_asked Γ M v0 v1 v2 v3) 0 [(0, rhR v0), (1, rhI v1), (2, rhI v2), (3, rhI v3)] [] Γ M := by
  intro M v0 v1 v2 v3
  rw [f_X12_asked]
  refine rhF.aload_n (pc := 0) dX12_asked_0 0 rfl ?_
  refine rhF.ck (fun h1 => ?_)
  refine rhF.callV (pc := 1) (ci := 12) (embc := rhe1U _) [] dX12_asked_1 ml_X12_467 mv_X12_layNow ⟨_, rfl, rfl⟩ h1 (c_X12_layNow _ _ _ _) (by decide) (by decide) rfl (Nat.le_of_ble_eq_true rfl) (fun r2 _ => ?_)
  refine rhF.aload_n (pc := 4) dX12_asked_4 0 rfl ?_
  refine rhF.iload_n (pc := 5) dX12_asked_5 1 rfl ?_
  refine rhF.iload_n (pc := 6) dX12_asked_6 2 rfl ?_
  refine rhF.iload_n (pc := 7) dX12_asked_7 3 rfl ?_
  refine rhF.callV (pc := 8) (ci := 12) (embc := rhe0I _ _) [rhI _, rhI _, rhI _] dX12_asked_8 ml_X12_446 mv_X12_canBe ⟨_, rfl, rfl⟩ h1 (c_X12_canBe _ _ _ _ _ _ _) (by decide) (by decide) rfl (Nat.le_of_ble_eq_true rfl) (fun r3 _ => ?_)
  refine rhF.if_eq (pc := 11) 24 dX12_asked_11 (by decide) (fun h4 => ?_) (fun h4 => ?_)
  · refine rhF.ldcw (pc := 24) dX12_asked_24 k_X12_470 ?_
    exact rhF.zret (pc := 27) dX12_asked_27 rfl rfl rfl
  · refine rhF.aload_n (pc := 14) dX12_asked_14 0 rfl ?_
    refine rhF.iload_n (pc := 15) dX12_asked_15 1 rfl ?_
    refine rhF.iload_n (pc := 16) dX12_asked_16 2 rfl ?_
    refine rhF.iload_n (pc := 17) dX12_asked_17 3 rfl ?_
    refine rhF.callV (pc := 18) (ci := 12) (embc := rhe1I _) [rhI _, rhI _, rhI _] dX12_asked_18 ml_X12_449 mv_X12_comes ⟨_, rfl, rfl⟩ h1 (c_X12_comes _ _ _ _ _ _ _) (by decide) (by decide) rfl (Nat.le_of_ble_eq_true rfl) (fun r5 _ => ?_)
    refine rhF.goto (pc := 21) 27 dX12_asked_21 (by decide) ?_
    exact rhF.zret (pc := 27) dX12_asked_27 rfl rfl rfl
theorem c_X12_asked (E : rhE) (Γ : rhG) (M : rhM) (v0 : Nat) (v1 : Int32) (v2 : Int32) (v3 : Int32) : ∀ a, f_X12_asked Γ M v0 v1 v2 v3 = some a → rhC E 8 yX12_asked cX12_asked 4 (some .int) [rhR v0, rhI v1, rhI v2, rhI v3] Γ M ((rhe1I Γ) a) := rhF.met (by decide +kernel) (Nat.le_of_ble_eq_true rfl) (b_X12_asked M v0 v1 v2 v3)
def f_X12_back_42 (k71 : rhM → Nat → Int32 → Option (Int32 × rhM)) (Γ : rhG) : Nat → rhM → Nat → Int32 → Int32 → Option (Int32 × rhM)
  | 0, _, _, _, _ => none
  | n + 1, M, v0, v1, v2 =>
    if v2 < 8 then
      (rhck (Γ.2.2.1 v0 = 13) <|
      rhck (Γ.2.2.1 (M.2.2 v0 86) = 15) <|
      rhck (0 ≤ ((8 * v1) + v2).toInt ∧ ((8 * v1) + v2).toInt < (Γ.2.2.2 (M.2.2 v0 86) : Nat)) <|
      rhck (Γ.2.2.1 (M.2.2 v0 42) = 15) <|
      rhck (0 ≤ (v2).toInt ∧ (v2).toInt < (Γ.2.2.2 (M.2.2 v0 42) : Nat)) <|
      let M17 := rhsi M (M.2.2 v0 42) (v2 : Int32).toNatClampNeg (M.1 (M.2.2 v0 86) ((8 * v1) + v2).toNatClampNeg)
      let x18 : Int32 := v2 + 1
      f_X12_back_42 k71 Γ n M17 v0 v1 x18)
    else
      k71 M v0 v1
def f_X12_back_73 (k101 : rhM → Nat → Int32 → Option (Int32 × rhM)) (Γ : rhG) : Nat → rhM → Nat → Int32 → Int32 → Option (Int32 × rhM)
  | 0, _, _, _, _ => none
  | n + 1, M, v0, v1, v2 =>
    if v2 < 5 then
      (rhck (Γ.2.2.1 v0 = 13) <|
      rhck (Γ.2.2.1 (M.2.2 v0 87) = 15) <|
      rhck (0 ≤ ((6 * v1) + v2).toInt ∧ ((6 * v1) + v2).toInt < (Γ.2.2.2 (M.2.2 v0 87) : Nat)) <|
      rhck (Γ.2.2.1 (M.2.2 v0 43) = 15) <|
      rhck (0 ≤ (v2).toInt ∧ (v2).toInt < (Γ.2.2.2 (M.2.2 v0 43) : Nat)) <|
      let M25 := rhsi M (M.2.2 v0 43) (v2 : Int32).toNatClampNeg (M.1 (M.2.2 v0 87) ((6 * v1) + v2).toNatClampNeg)
      let x26 : Int32 := v2 + 1
      f_X12_back_73 k101 Γ n M25 v0 v1 x26)
    else
      k101 M v0 v1
def f_X12_back_103 (Γ : rhG) : Nat → rhM → Nat → Int32 → Int32 → Option (Int32 × rhM)
  | 0, _, _, _, _ => none
  | n + 1, M, v0, v1, v2 =>
    rhck (Γ.2.2.1 v0 = 13) <|
    if v2 < (M.1 v0 48) then
      (rhck (Γ.2.2.1 (M.2.2 v0 88) = 15) <|
      rhck (0 ≤ ((300 * v1) + v2).toInt ∧ ((300 * v1) + v2).toInt < (Γ.2.2.2 (M.2.2 v0 88) : Nat)) <|
      rhck (Γ.2.2.1 (M.2.2 v0 46) = 15) <|
      rhck (0 ≤ (v2).toInt ∧ (v2).toInt < (Γ.2.2.2 (M.2.2 v0 46) : Nat)) <|
      let M33 := rhsi M (M.2.2 v0 46) (v2 : Int32).toNatClampNeg (M.1 (M.2.2 v0 88) ((300 * v1) + v2).toNatClampNeg)
      rhck (Γ.2.2.1 (M.2.2 v0 89) = 15) <|
      rhck (0 ≤ ((300 * v1) + v2).toInt ∧ ((300 * v1) + v2).toInt < (Γ.2.2.2 (M.2.2 v0 89) : Nat)) <|
      rhck (Γ.2.2.1 (M.2.2 v0 47) = 15) <|
      rhck (0 ≤ (v2).toInt ∧ (v2).toInt < (Γ.2.2.2 (M.2.2 v0 47) : Nat)) <|
      let M38 := rhsi M33 (M.2.2 v0 47) (v2 : Int32).toNatClampNeg (M33.1 (M.2.2 v0 89) ((300 * v1) + v2).toNatClampNeg)
      let x39 : Int32 := v2 + 1
      f_X12_back_103 Γ n M38 v0 v1 x39)
    else
      some ((M.1 v0 48, M))
def f_X12_back_101 (Γ : rhG) (M : rhM) (v0 : Nat) (v1 : Int32) : Option (Int32 × rhM) :=
  f_X12_back_103 Γ rhFU M v0 v1 0
def f_X12_back_71 (Γ : rhG) (M : rhM) (v0 : Nat) (v1 : Int32) : Option (Int32 × rhM) :=
  f_X12_back_73 (f_X12_back_101 Γ) Γ rhFU M v0 v1 0
def f_X12_back (Γ : rhG) (M : rhM) (v0 : Nat) (v1 : Int32) : Option (Int32 × rhM) :=
  (f_X12_isIn Γ M v1 (0 : Int32) (2 : Int32)).bind fun r1 =>
  if r1 = 0 then
    (some (((-1), M)))
  else
    rhck (Γ.2.2.1 v0 = 13) <|
    rhck (Γ.2.2.1 (M.2.2 v0 84) = 15) <|
    rhck (0 ≤ (v1).toInt ∧ (v1).toInt < (Γ.2.2.2 (M.2.2 v0 84) : Nat)) <|
    if (M.1 (M.2.2 v0 84) v1.toNatClampNeg) < 0 then
      (some (((-1), M)))
    else
      let M7 := rhsi M v0 48 (M.1 (M.2.2 v0 84) v1.toNatClampNeg)
      rhck (Γ.2.2.1 (M.2.2 v0 85) = 15) <|
      rhck (0 ≤ (v1).toInt ∧ (v1).toInt < (Γ.2.2.2 (M.2.2 v0 85) : Nat)) <|
      let M10 := rhsi M7 v0 49 (M7.1 (M.2.2 v0 85) v1.toNatClampNeg)
      f_X12_back_42 (f_X12_back_71 Γ) Γ rhFU M10 v0 v1 0
set_option maxHeartbeats 4000000 in
set_option maxRecDepth 100000 in
theorem b_X12_back_42 {E : rhE} {Γ : rhG} {k71 : rhM → Nat → Int32 → Option (Int32 × rhM)} (hk71 : ∀ (M : rhM) (v0 : Nat) (v1 : Int32), rhF E 5 3 yX12_back cX12_back (some .int) Γ (rhe1I Γ) (k71 M v0 v1) 71 [(0, rhR v0), (1, rhI v1)] [] Γ M) : ∀ (n : Nat) (M : rhM) (v0 : Nat) (v1 : Int32) (v2 : Int32), rhF E 5 3 yX12_back cX12_back (some .int) Γ (rhe1I Γ) (f_X12_back_42 k71 Γ n M v0 v1 v2) 42 [(0, rhR v0), (1, rhI v1), (2, rhI v2)] [] Γ M := by
  intro n
  induction n with
  | zero => intro M v0 v1 v2; rw [f_X12_back_42]; exact rhF.nope
  | succ n ih =>
    intro M v0 v1 v2
    rw [f_X12_back_42]
    refine rhF.iload_n (pc := 42) dX12_back_42 2 rfl ?_
    refine rhF.bipush (pc := 43) (v := 8) dX12_back_43 (by decide) ?_
    refine rhF.icmp_ge (pc := 45) 71 dX12_back_45 (by decide) (fun h11 => ?_) (fun h11 => ?_)
    · refine rhF.aload_n (pc := 48) dX12_back_48 0 rfl ?_
      refine rhF.ck (fun h12 => ?_)
      refine rhF.get (pc := 49) (rhR _) dX12_back_49 fl_X12_101 h12 rfl ?_
      refine rhF.iload_n (pc := 52) dX12_back_52 2 rfl ?_
      refine rhF.aload_n (pc := 53) dX12_back_53 0 rfl ?_
      refine rhF.get (pc := 54) (rhR _) dX12_back_54 fl_X12_196 h12 rfl ?_
      refine rhF.bipush (pc := 57) (v := 8) dX12_back_57 (by decide) ?_
      refine rhF.iload_n (pc := 59) dX12_back_59 1 rfl ?_
      refine rhF.imul (pc := 60) dX12_back_60 ?_
      refine rhF.iload_n (pc := 61) dX12_back_61 2 rfl ?_
      refine rhF.iadd (pc := 62) dX12_back_62 ?_
      refine rhF.ck (fun h13 => ?_)
      refine rhF.ck (fun h14 => ?_)
      refine rhF.iald (pc := 63) dX12_back_63 h13 h14 ?_
      refine rhF.ck (fun h15 => ?_)
      refine rhF.ck (fun h16 => ?_)
      refine rhF.iast (pc := 64) dX12_back_64 h15 h16 ?_
      refine rhF.iinc (pc := 65) (L' := [(2, rhI _), (0, rhR _), (1, rhI _)]) dX12_back_65 2 rfl rfl (by decide) rfl ?_
      refine rhF.goto (pc := 68) 42 dX12_back_68 (by decide) ?_
      refine rhF.sub [1, 2, 0] rfl ?_
      exact ih _ _ _ _
    · refine rhF.sub [0, 1] rfl ?_
      exact hk71 _ _ _
set_option maxHeartbeats 4000000 in
set_option maxRecDepth 100000 in
theorem b_X12_back_73 {E : rhE} {Γ : rhG} {k101 : rhM → Nat → Int32 → Option (Int32 × rhM)} (hk101 : ∀ (M : rhM) (v0 : Nat) (v1 : Int32), rhF E 5 3 yX12_back cX12_back (some .int) Γ (rhe1I Γ) (k101 M v0 v1) 101 [(0, rhR v0), (1, rhI v1)] [] Γ M) : ∀ (n : Nat) (M : rhM) (v0 : Nat) (v1 : Int32) (v2 : Int32), rhF E 5 3 yX12_back cX12_back (some .int) Γ (rhe1I Γ) (f_X12_back_73 k101 Γ n M v0 v1 v2) 73 [(0, rhR v0), (1, rhI v1), (2, rhI v2)] [] Γ M := by
  intro n
  induction n with
  | zero => intro M v0 v1 v2; rw [f_X12_back_73]; exact rhF.nope
  | succ n ih =>
    intro M v0 v1 v2
    rw [f_X12_back_73]
    refine rhF.iload_n (pc := 73) dX12_back_73 2 rfl ?_
    refine rhF.iconst (pc := 74) (v := 5) dX12_back_74 (by decide) ?_
    refine rhF.icmp_ge (pc := 75) 101 dX12_back_75 (by decide) (fun h19 => ?_) (fun h19 => ?_)
    · refine rhF.aload_n (pc := 78) dX12_back_78 0 rfl ?_
      refine rhF.ck (fun h20 => ?_)
      refine rhF.get (pc := 79) (rhR _) dX12_back_79 fl_X12_104 h20 rfl ?_
      refine rhF.iload_n (pc := 82) dX12_back_82 2 rfl ?_
      refine rhF.aload_n (pc := 83) dX12_back_83 0 rfl ?_
      refine rhF.get (pc := 84) (rhR _) dX12_back_84 fl_X12_199 h20 rfl ?_
      refine rhF.bipush (pc := 87) (v := 6) dX12_back_87 (by decide) ?_
      refine rhF.iload_n (pc := 89) dX12_back_89 1 rfl ?_
      refine rhF.imul (pc := 90) dX12_back_90 ?_
      refine rhF.iload_n (pc := 91) dX12_back_91 2 rfl ?_
      refine rhF.iadd (pc := 92) dX12_back_92 ?_
      refine rhF.ck (fun h21 => ?_)
      refine rhF.ck (fun h22 => ?_)
      refine rhF.iald (pc := 93) dX12_back_93 h21 h22 ?_
      refine rhF.ck (fun h23 => ?_)
      refine rhF.ck (fun h24 => ?_)
      refine rhF.iast (pc := 94) dX12_back_94 h23 h24 ?_
      refine rhF.iinc (pc := 95) (L' := [(2, rhI _), (0, rhR _), (1, rhI _)]) dX12_back_95 2 rfl rfl (by decide) rfl ?_
      refine rhF.goto (pc := 98) 73 dX12_back_98 (by decide) ?_
      refine rhF.sub [1, 2, 0] rfl ?_
      exact ih _ _ _ _
    · refine rhF.sub [0, 1] rfl ?_
      exact hk101 _ _ _
set_option maxHeartbeats 4000000 in
set_option maxRecDepth 100000 in
theorem b_X12_back_103 {E : rhE} {Γ : rhG} : ∀ (n : Nat) (M : rhM) (v0 : Nat) (v1 : Int32) (v2 : Int32), rhF E 5 3 yX12_back cX12_back (some .int) Γ (rhe1I Γ) (f_X12_back_103 Γ n M v0 v1 v2) 103 [(0, rhR v0), (1, rhI v1), (2, rhI v2)] [] Γ M := by
  intro n
  induction n with
  | zero => intro M v0 v1 v2; rw [f_X12_back_103]; exact rhF.nope
  | succ n ih =>
    intro M v0 v1 v2
    rw [f_X12_back_103]
    refine rhF.iload_n (pc := 103) dX12_back_103 2 rfl ?_
    refine rhF.aload_n (pc := 104) dX12_back_104 0 rfl ?_
    refine rhF.ck (fun h27 => ?_)
    refine rhF.get (pc := 105) (rhI _) dX12_back_105 fl_X12_458 h27 rfl ?_
    refine rhF.icmp_ge (pc := 108) 153 dX12_back_108 (by decide) (fun h28 => ?_) (fun h28 => ?_)
    · refine rhF.aload_n (pc := 111) dX12_back_111 0 rfl ?_
      refine rhF.get (pc := 112) (rhR _) dX12_back_112 fl_X12_110 h27 rfl ?_
      refine rhF.iload_n (pc := 115) dX12_back_115 2 rfl ?_
      refine rhF.aload_n (pc := 116) dX12_back_116 0 rfl ?_
      refine rhF.get (pc := 117) (rhR _) dX12_back_117 fl_X12_202 h27 rfl ?_
      refine rhF.sipush (pc := 120) (v := 300) dX12_back_120 (by decide) ?_
      refine rhF.iload_n (pc := 123) dX12_back_123 1 rfl ?_
      refine rhF.imul (pc := 124) dX12_back_124 ?_
      refine rhF.iload_n (pc := 125) dX12_back_125 2 rfl ?_
      refine rhF.iadd (pc := 126) dX12_back_126 ?_
      refine rhF.ck (fun h29 => ?_)
      refine rhF.ck (fun h30 => ?_)
      refine rhF.iald (pc := 127) dX12_back_127 h29 h30 ?_
      refine rhF.ck (fun h31 => ?_)
      refine rhF.ck (fun h32 => ?_)
      refine rhF.iast (pc := 128) dX12_back_128 h31 h32 ?_
      refine rhF.aload_n (pc := 129) dX12_back_129 0 rfl ?_
      refine rhF.get (pc := 130) (rhR _) dX12_back_130 fl_X12_113 h27 rfl ?_
      refine rhF.iload_n (pc := 133) dX12_back_133 2 rfl ?_
      refine rhF.aload_n (pc := 134) dX12_back_134 0 rfl ?_
      refine rhF.get (pc := 135) (rhR _) dX12_back_135 fl_X12_205 h27 rfl ?_
      refine rhF.sipush (pc := 138) (v := 300) dX12_back_138 (by decide) ?_
      refine rhF.iload_n (pc := 141) dX12_back_141 1 rfl ?_
      refine rhF.imul (pc := 142) dX12_back_142 ?_
      refine rhF.iload_n (pc := 143) dX12_back_143 2 rfl ?_
      refine rhF.iadd (pc := 144) dX12_back_144 ?_
      refine rhF.ck (fun h34 => ?_)
      refine rhF.ck (fun h35 => ?_)
      refine rhF.iald (pc := 145) dX12_back_145 h34 h35 ?_
      refine rhF.ck (fun h36 => ?_)
      refine rhF.ck (fun h37 => ?_)
      refine rhF.iast (pc := 146) dX12_back_146 h36 h37 ?_
      refine rhF.iinc (pc := 147) (L' := [(2, rhI _), (0, rhR _), (1, rhI _)]) dX12_back_147 2 rfl rfl (by decide) rfl ?_
      refine rhF.goto (pc := 150) 103 dX12_back_150 (by decide) ?_
      refine rhF.sub [1, 2, 0] rfl ?_
      exact ih _ _ _ _
    · refine rhF.aload_n (pc := 153) dX12_back_153 0 rfl ?_
      refine rhF.get (pc := 154) (rhI _) dX12_back_154 fl_X12_458 h27 rfl ?_
      exact rhF.zret (pc := 157) dX12_back_157 rfl rfl rfl
set_option maxHeartbeats 4000000 in
set_option maxRecDepth 100000 in
theorem b_X12_back_101 {E : rhE} {Γ : rhG} : ∀ (M : rhM) (v0 : Nat) (v1 : Int32), rhF E 5 3 yX12_back cX12_back (some .int) Γ (rhe1I Γ) (f_X12_back_101 Γ M v0 v1) 101 [(0, rhR v0), (1, rhI v1)] [] Γ M := by
  intro M v0 v1
  rw [f_X12_back_101]
  refine rhF.iconst (pc := 101) (v := 0) dX12_back_101 (by decide) ?_
  refine rhF.istore_n (pc := 102) (L' := [(2, rhI _), (0, rhR _), (1, rhI _)]) dX12_back_102 (by decide) rfl ?_
  refine rhF.sub [1, 2, 0] rfl ?_
  exact (b_X12_back_103 rhFU) _ _ _ _
set_option maxHeartbeats 4000000 in
set_option maxRecDepth 100000 in
theorem b_X12_back_71 {E : rhE} {Γ : rhG} : ∀ (M : rhM) (v0 : Nat) (v1 : Int32), rhF E 5 3 yX12_back cX12_back (some .int) Γ (rhe1I Γ) (f_X12_back_71 Γ M v0 v1) 71 [(0, rhR v0), (1, rhI v1)] [] Γ M := by
  intro M v0 v1
  rw [f_X12_back_71]
  refine rhF.iconst (pc := 71) (v := 0) dX12_back_71 (by decide) ?_
  refine rhF.istore_n (pc := 72) (L' := [(2, rhI _), (0, rhR _), (1, rhI _)]) dX12_back_72 (by decide) rfl ?_
  refine rhF.sub [1, 2, 0] rfl ?_
  exact (b_X12_back_73 (b_X12_back_101) rhFU) _ _ _ _
set_option maxHeartbeats 4000000 in
set_option maxRecDepth 100000 in
theorem b_X12_back {E : rhE} {Γ : rhG} : ∀ (M : rhM) (v0 : Nat) (v1 : Int32), rhF E 5 3 yX12_back cX12_back (some .int) Γ (rhe1I Γ) (f_X12_back Γ M v0 v1) 0 [(0, rhR v0), (1, rhI v1)] [] Γ M := by
  intro M v0 v1
  rw [f_X12_back]
  refine rhF.iload_n (pc := 0) dX12_back_0 1 rfl ?_
  refine rhF.iconst (pc := 1) (v := 0) dX12_back_1 (by decide) ?_
  refine rhF.iconst (pc := 2) (v := 2) dX12_back_2 (by decide) ?_
  refine rhF.callS (pc := 3) (embc := rhe0I _ _) [rhI _, rhI _, rhI _] dX12_back_3 ml_X12_415 ms_X12_isIn (c_X12_isIn _ _ _ _ _ _) (by decide) (by decide) rfl (Nat.le_of_ble_eq_true rfl) (fun r1 _ => ?_)
  refine rhF.if_eq (pc := 6) 18 dX12_back_6 (by decide) (fun h2 => ?_) (fun h2 => ?_)
  · refine rhF.iconst (pc := 18) (v := (-1)) dX12_back_18 (by decide) ?_
    exact rhF.zret (pc := 19) dX12_back_19 rfl rfl rfl
  · refine rhF.aload_n (pc := 9) dX12_back_9 0 rfl ?_
    refine rhF.ck (fun h3 => ?_)
    refine rhF.get (pc := 10) (rhR _) dX12_back_10 fl_X12_190 h3 rfl ?_
    refine rhF.iload_n (pc := 13) dX12_back_13 1 rfl ?_
    refine rhF.ck (fun h4 => ?_)
    refine rhF.ck (fun h5 => ?_)
    refine rhF.iald (pc := 14) dX12_back_14 h4 h5 ?_
    refine rhF.if_ge (pc := 15) 20 dX12_back_15 (by decide) (fun h6 => ?_) (fun h6 => ?_)
    · refine rhF.iconst (pc := 18) (v := (-1)) dX12_back_18 (by decide) ?_
      exact rhF.zret (pc := 19) dX12_back_19 rfl rfl rfl
    · refine rhF.aload_n (pc := 20) dX12_back_20 0 rfl ?_
      refine rhF.aload_n (pc := 21) dX12_back_21 0 rfl ?_
      refine rhF.get (pc := 22) (rhR _) dX12_back_22 fl_X12_190 h3 rfl ?_
      refine rhF.iload_n (pc := 25) dX12_back_25 1 rfl ?_
      refine rhF.iald (pc := 26) dX12_back_26 h4 h5 ?_
      refine rhF.puti (pc := 27) dX12_back_27 fl_X12_458 h3 (fun q hq => by cases hq; exact Or.inl rfl) ⟨rfl, rfl⟩ (fun _ => rfl) ?_
      refine rhF.aload_n (pc := 30) dX12_back_30 0 rfl ?_
      refine rhF.aload_n (pc := 31) dX12_back_31 0 rfl ?_
      refine rhF.get (pc := 32) (rhR _) dX12_back_32 fl_X12_193 h3 rfl ?_
      refine rhF.iload_n (pc := 35) dX12_back_35 1 rfl ?_
      refine rhF.ck (fun h8 => ?_)
      refine rhF.ck (fun h9 => ?_)
      refine rhF.iald (pc := 36) dX12_back_36 h8 h9 ?_
      refine rhF.puti (pc := 37) dX12_back_37 fl_X12_461 h3 (fun q hq => by cases hq; exact Or.inl rfl) ⟨rfl, rfl⟩ (fun _ => rfl) ?_
      refine rhF.iconst (pc := 40) (v := 0) dX12_back_40 (by decide) ?_
      refine rhF.istore_n (pc := 41) (L' := [(2, rhI _), (0, rhR _), (1, rhI _)]) dX12_back_41 (by decide) rfl ?_
      refine rhF.sub [1, 2, 0] rfl ?_
      exact (b_X12_back_42 (b_X12_back_71) rhFU) _ _ _ _
theorem c_X12_back (E : rhE) (Γ : rhG) (M : rhM) (v0 : Nat) (v1 : Int32) : ∀ a, f_X12_back Γ M v0 v1 = some a → rhC E 5 yX12_back cX12_back 3 (some .int) [rhR v0, rhI v1] Γ M ((rhe1I Γ) a) := rhF.met (by decide +kernel) (Nat.le_of_ble_eq_true rfl) (b_X12_back M v0 v1)
def f_X12_keepNow_2 (k26 : rhM → Nat → Option (rhM)) (Γ : rhG) : Nat → rhM → Nat → Int32 → Option (rhM)
  | 0, _, _, _ => none
  | n + 1, M, v0, v1 =>
    if v1 < 8 then
      (rhck (Γ.2.2.1 v0 = 13) <|
      rhck (Γ.2.2.1 (M.2.2 v0 39) = 15) <|
      rhck (0 ≤ (v1).toInt ∧ (v1).toInt < (Γ.2.2.2 (M.2.2 v0 39) : Nat)) <|
      rhck (Γ.2.2.1 (M.2.2 v0 42) = 15) <|
      rhck (0 ≤ (v1).toInt ∧ (v1).toInt < (Γ.2.2.2 (M.2.2 v0 42) : Nat)) <|
      let M7 := rhsi M (M.2.2 v0 42) (v1 : Int32).toNatClampNeg (M.1 (M.2.2 v0 39) v1.toNatClampNeg)
      let x8 : Int32 := v1 + 1
      f_X12_keepNow_2 k26 Γ n M7 v0 x8)
    else
      k26 M v0
def f_X12_keepNow_28 (Γ : rhG) : Nat → rhM → Nat → Int32 → Option (rhM)
  | 0, _, _, _ => none
  | n + 1, M, v0, v1 =>
    if v1 < 5 then
      (rhck (Γ.2.2.1 v0 = 13) <|
      rhck (Γ.2.2.1 (M.2.2 v0 40) = 15) <|
      rhck (0 ≤ (v1).toInt ∧ (v1).toInt < (Γ.2.2.2 (M.2.2 v0 40) : Nat)) <|
      rhck (Γ.2.2.1 (M.2.2 v0 43) = 15) <|
      rhck (0 ≤ (v1).toInt ∧ (v1).toInt < (Γ.2.2.2 (M.2.2 v0 43) : Nat)) <|
      let M15 := rhsi M (M.2.2 v0 43) (v1 : Int32).toNatClampNeg (M.1 (M.2.2 v0 40) v1.toNatClampNeg)
      let x16 : Int32 := v1 + 1
      f_X12_keepNow_28 Γ n M15 v0 x16)
    else
      some M
def f_X12_keepNow_26 (Γ : rhG) (M : rhM) (v0 : Nat) : Option (rhM) :=
  f_X12_keepNow_28 Γ rhFU M v0 0
def f_X12_keepNow (Γ : rhG) (M : rhM) (v0 : Nat) : Option (rhM) :=
  f_X12_keepNow_2 (f_X12_keepNow_26 Γ) Γ rhFU M v0 0
set_option maxHeartbeats 4000000 in
set_option maxRecDepth 100000 in
theorem b_X12_keepNow_2 {E : rhE} {Γ : rhG} {k26 : rhM → Nat → Option (rhM)} (hk26 : ∀ (M : rhM) (v0 : Nat), rhF E 1 2 yX12_keepNow cX12_keepNow none Γ (rhe1U Γ) (k26 M v0) 26 [(0, rhR v0)] [] Γ M) : ∀ (n : Nat) (M : rhM) (v0 : Nat) (v1 : Int32), rhF E 1 2 yX12_keepNow cX12_keepNow none Γ (rhe1U Γ) (f_X12_keepNow_2 k26 Γ n M v0 v1) 2 [(0, rhR v0), (1, rhI v1)] [] Γ M := by
  intro n
  induction n with
  | zero => intro M v0 v1; rw [f_X12_keepNow_2]; exact rhF.nope
  | succ n ih =>
    intro M v0 v1
    rw [f_X12_keepNow_2]
    refine rhF.iload_n (pc := 2) dX12_keepNow_2 1 rfl ?_
    refine rhF.bipush (pc := 3) (v := 8) dX12_keepNow_3 (by decide) ?_
    refine rhF.icmp_ge (pc := 5) 26 dX12_keepNow_5 (by decide) (fun h1 => ?_) (fun h1 => ?_)
    · refine rhF.aload_n (pc := 8) dX12_keepNow_8 0 rfl ?_
      refine rhF.ck (fun h2 => ?_)
      refine rhF.get (pc := 9) (rhR _) dX12_keepNow_9 fl_X12_101 h2 rfl ?_
      refine rhF.iload_n (pc := 12) dX12_keepNow_12 1 rfl ?_
      refine rhF.aload_n (pc := 13) dX12_keepNow_13 0 rfl ?_
      refine rhF.get (pc := 14) (rhR _) dX12_keepNow_14 fl_X12_92 h2 rfl ?_
      refine rhF.iload_n (pc := 17) dX12_keepNow_17 1 rfl ?_
      refine rhF.ck (fun h3 => ?_)
      refine rhF.ck (fun h4 => ?_)
      refine rhF.iald (pc := 18) dX12_keepNow_18 h3 h4 ?_
      refine rhF.ck (fun h5 => ?_)
      refine rhF.ck (fun h6 => ?_)
      refine rhF.iast (pc := 19) dX12_keepNow_19 h5 h6 ?_
      refine rhF.iinc (pc := 20) (L' := [(1, rhI _), (0, rhR _)]) dX12_keepNow_20 1 rfl rfl (by decide) rfl ?_
      refine rhF.goto (pc := 23) 2 dX12_keepNow_23 (by decide) ?_
      refine rhF.sub [1, 0] rfl ?_
      exact ih _ _ _
    · refine rhF.sub [0] rfl ?_
      exact hk26 _ _
set_option maxHeartbeats 4000000 in
set_option maxRecDepth 100000 in
theorem b_X12_keepNow_28 {E : rhE} {Γ : rhG} : ∀ (n : Nat) (M : rhM) (v0 : Nat) (v1 : Int32), rhF E 1 2 yX12_keepNow cX12_keepNow none Γ (rhe1U Γ) (f_X12_keepNow_28 Γ n M v0 v1) 28 [(0, rhR v0), (1, rhI v1)] [] Γ M := by
  intro n
  induction n with
  | zero => intro M v0 v1; rw [f_X12_keepNow_28]; exact rhF.nope
  | succ n ih =>
    intro M v0 v1
    rw [f_X12_keepNow_28]
    refine rhF.iload_n (pc := 28) dX12_keepNow_28 1 rfl ?_
    refine rhF.iconst (pc := 29) (v := 5) dX12_keepNow_29 (by decide) ?_
    refine rhF.icmp_ge (pc := 30) 51 dX12_keepNow_30 (by decide) (fun h9 => ?_) (fun h9 => ?_)
    · refine rhF.aload_n (pc := 33) dX12_keepNow_33 0 rfl ?_
      refine rhF.ck (fun h10 => ?_)
      refine rhF.get (pc := 34) (rhR _) dX12_keepNow_34 fl_X12_104 h10 rfl ?_
      refine rhF.iload_n (pc := 37) dX12_keepNow_37 1 rfl ?_
      refine rhF.aload_n (pc := 38) dX12_keepNow_38 0 rfl ?_
      refine rhF.get (pc := 39) (rhR _) dX12_keepNow_39 fl_X12_95 h10 rfl ?_
      refine rhF.iload_n (pc := 42) dX12_keepNow_42 1 rfl ?_
      refine rhF.ck (fun h11 => ?_)
      refine rhF.ck (fun h12 => ?_)
      refine rhF.iald (pc := 43) dX12_keepNow_43 h11 h12 ?_
      refine rhF.ck (fun h13 => ?_)
      refine rhF.ck (fun h14 => ?_)
      refine rhF.iast (pc := 44) dX12_keepNow_44 h13 h14 ?_
      refine rhF.iinc (pc := 45) (L' := [(1, rhI _), (0, rhR _)]) dX12_keepNow_45 1 rfl rfl (by decide) rfl ?_
      refine rhF.goto (pc := 48) 28 dX12_keepNow_48 (by decide) ?_
      refine rhF.sub [1, 0] rfl ?_
      exact ih _ _ _
    · exact rhF.vret (pc := 51) dX12_keepNow_51 rfl rfl
set_option maxHeartbeats 4000000 in
set_option maxRecDepth 100000 in
theorem b_X12_keepNow_26 {E : rhE} {Γ : rhG} : ∀ (M : rhM) (v0 : Nat), rhF E 1 2 yX12_keepNow cX12_keepNow none Γ (rhe1U Γ) (f_X12_keepNow_26 Γ M v0) 26 [(0, rhR v0)] [] Γ M := by
  intro M v0
  rw [f_X12_keepNow_26]
  refine rhF.iconst (pc := 26) (v := 0) dX12_keepNow_26 (by decide) ?_
  refine rhF.istore_n (pc := 27) (L' := [(1, rhI _), (0, rhR _)]) dX12_keepNow_27 (by decide) rfl ?_
  refine rhF.sub [1, 0] rfl ?_
  exact (b_X12_keepNow_28 rhFU) _ _ _
set_option maxHeartbeats 4000000 in
set_option maxRecDepth 100000 in
theorem b_X12_keepNow {E : rhE} {Γ : rhG} : ∀ (M : rhM) (v0 : Nat), rhF E 1 2 yX12_keepNow cX12_keepNow none Γ (rhe1U Γ) (f_X12_keepNow Γ M v0) 0 [(0, rhR v0)] [] Γ M := by
  intro M v0
  rw [f_X12_keepNow]
  refine rhF.iconst (pc := 0) (v := 0) dX12_keepNow_0 (by decide) ?_
  refine rhF.istore_n (pc := 1) (L' := [(1, rhI _), (0, rhR _)]) dX12_keepNow_1 (by decide) rfl ?_
  refine rhF.sub [1, 0] rfl ?_
  exact (b_X12_keepNow_2 (b_X12_keepNow_26) rhFU) _ _ _
theorem c_X12_keepNow (E : rhE) (Γ : rhG) (M : rhM) (v0 : Nat) : ∀ a, f_X12_keepNow Γ M v0 = some a → rhC E 1 yX12_keepNow cX12_keepNow 2 none [rhR v0] Γ M ((rhe1U Γ) a) := rhF.met (by decide +kernel) (Nat.le_of_ble_eq_true rfl) (b_X12_keepNow M v0)
def f_X12_layFirst_53 (k14 : rhM → Nat → Int32 → Int32 → Int32 → Option (rhM)) (Γ : rhG) (M : rhM) (v0 : Nat) (v1 : Int32) (v2 : Int32) (v3 : Int32) : Option (rhM) :=
  let x14 : Int32 := v3 + 1
  k14 M v0 v1 v2 x14
def f_X12_layFirst_14 (k59 : rhM → Nat → Int32 → Int32 → Option (rhM)) (Γ : rhG) : Nat → rhM → Nat → Int32 → Int32 → Int32 → Option (rhM)
  | 0, _, _, _, _, _ => none
  | n + 1, M, v0, v1, v2, v3 =>
    rhck (Γ.2.2.1 v0 = 13) <|
    (f_X12_houseMany Γ M v0).bind fun r5 =>
    if v3 < r5 then
      (rhck (Γ.2.2.1 (M.2.2 v0 21) = 15) <|
      rhck (0 ≤ ((8 * (M.1 v0 34)) + v3).toInt ∧ ((8 * (M.1 v0 34)) + v3).toInt < (Γ.2.2.2 (M.2.2 v0 21) : Nat)) <|
      if (M.1 (M.2.2 v0 21) ((8 * (M.1 v0 34)) + v3).toNatClampNeg) = v2 then
        (rhck (Γ.2.2.1 (M.2.2 v0 39) = 15) <|
        rhck (0 ≤ (v1).toInt ∧ (v1).toInt < (Γ.2.2.2 (M.2.2 v0 39) : Nat)) <|
        let M12 := rhsi M (M.2.2 v0 39) (v1 : Int32).toNatClampNeg v3
        let x13 : Int32 := v1 + 1
        f_X12_layFirst_53 (f_X12_layFirst_14 k59 Γ n) Γ M12 v0 x13 v2 v3)
      else
        f_X12_layFirst_53 (f_X12_layFirst_14 k59 Γ n) Γ M v0 v1 v2 v3)
    else
      k59 M v0 v1 v2
def f_X12_layFirst_59 (k4 : rhM → Nat → Int32 → Int32 → Option (rhM)) (Γ : rhG) (M : rhM) (v0 : Nat) (v1 : Int32) (v2 : Int32) : Option (rhM) :=
  rhck (Γ.2.2.1 v0 = 13) <|
  rhck (Γ.2.2.1 (M.2.2 v0 40) = 15) <|
  rhck (0 ≤ (v2).toInt ∧ (v2).toInt < (Γ.2.2.2 (M.2.2 v0 40) : Nat)) <|
  let M18 := rhsi M (M.2.2 v0 40) (v2 : Int32).toNatClampNeg v1
  let x19 : Int32 := v2 + 1
  k4 M18 v0 v1 x19
def f_X12_layFirst_4 (Γ : rhG) : Nat → rhM → Nat → Int32 → Int32 → Option (rhM)
  | 0, _, _, _, _ => none
  | n + 1, M, v0, v1, v2 =>
    rhck (Γ.2.2.1 v0 = 13) <|
    (f_X12_railMany Γ M v0).bind fun r2 =>
    if v2 < r2 then
      (f_X12_layFirst_14 (f_X12_layFirst_59 (f_X12_layFirst_4 Γ n) Γ) Γ rhFU M v0 v1 v2 0)
    else
      some M
def f_X12_layFirst (Γ : rhG) (M : rhM) (v0 : Nat) : Option (rhM) :=
  f_X12_layFirst_4 Γ rhFU M v0 0 0
set_option maxHeartbeats 4000000 in
set_option maxRecDepth 100000 in
theorem b_X12_layFirst_53 {E : rhE} {Γ : rhG} {k14 : rhM → Nat → Int32 → Int32 → Int32 → Option (rhM)} (hk14 : ∀ (M : rhM) (v0 : Nat) (v1 : Int32) (v2 : Int32) (v3 : Int32), rhF E 5 4 yX12_layFirst cX12_layFirst none Γ (rhe1U Γ) (k14 M v0 v1 v2 v3) 14 [(0, rhR v0), (1, rhI v1), (2, rhI v2), (3, rhI v3)] [] Γ M) : ∀ (M : rhM) (v0 : Nat) (v1 : Int32) (v2 : Int32) (v3 : Int32), rhF E 5 4 yX12_layFirst cX12_layFirst none Γ (rhe1U Γ) (f_X12_layFirst_53 k14 Γ M v0 v1 v2 v3) 53 [(0, rhR v0), (1, rhI v1), (2, rhI v2), (3, rhI v3)] [] Γ M := by
  intro M v0 v1 v2 v3
  rw [f_X12_layFirst_53]
  refine rhF.iinc (pc := 53) (L' := [(3, rhI _), (0, rhR _), (1, rhI _), (2, rhI _)]) dX12_layFirst_53 3 rfl rfl (by decide) rfl ?_
  refine rhF.goto (pc := 56) 14 dX12_layFirst_56 (by decide) ?_
  refine rhF.sub [1, 2, 3, 0] rfl ?_
  exact hk14 _ _ _ _ _
set_option maxHeartbeats 4000000 in
set_option maxRecDepth 100000 in
theorem b_X12_layFirst_14 {E : rhE} {Γ : rhG} {k59 : rhM → Nat → Int32 → Int32 → Option (rhM)} (hk59 : ∀ (M : rhM) (v0 : Nat) (v1 : Int32) (v2 : Int32), rhF E 5 4 yX12_layFirst cX12_layFirst none Γ (rhe1U Γ) (k59 M v0 v1 v2) 59 [(0, rhR v0), (1, rhI v1), (2, rhI v2)] [] Γ M) : ∀ (n : Nat) (M : rhM) (v0 : Nat) (v1 : Int32) (v2 : Int32) (v3 : Int32), rhF E 5 4 yX12_layFirst cX12_layFirst none Γ (rhe1U Γ) (f_X12_layFirst_14 k59 Γ n M v0 v1 v2 v3) 14 [(0, rhR v0), (1, rhI v1), (2, rhI v2), (3, rhI v3)] [] Γ M := by
  intro n
  induction n with
  | zero => intro M v0 v1 v2 v3; rw [f_X12_layFirst_14]; exact rhF.nope
  | succ n ih =>
    intro M v0 v1 v2 v3
    rw [f_X12_layFirst_14]
    refine rhF.iload_n (pc := 14) dX12_layFirst_14 3 rfl ?_
    refine rhF.aload_n (pc := 15) dX12_layFirst_15 0 rfl ?_
    refine rhF.ck (fun h4 => ?_)
    refine rhF.callV (pc := 16) (ci := 12) (embc := rhe0I _ _) [] dX12_layFirst_16 ml_X12_419 mv_X12_houseMany ⟨_, rfl, rfl⟩ h4 (c_X12_houseMany _ _ _ _) (by decide) (by decide) rfl (Nat.le_of_ble_eq_true rfl) (fun r5 _ => ?_)
    refine rhF.icmp_ge (pc := 19) 59 dX12_layFirst_19 (by decide) (fun h6 => ?_) (fun h6 => ?_)
    · refine rhF.aload_n (pc := 22) dX12_layFirst_22 0 rfl ?_
      refine rhF.get (pc := 23) (rhR _) dX12_layFirst_23 fl_X12_51 h4 rfl ?_
      refine rhF.bipush (pc := 26) (v := 8) dX12_layFirst_26 (by decide) ?_
      refine rhF.aload_n (pc := 28) dX12_layFirst_28 0 rfl ?_
      refine rhF.get (pc := 29) (rhI _) dX12_layFirst_29 fl_X12_327 h4 rfl ?_
      refine rhF.imul (pc := 32) dX12_layFirst_32 ?_
      refine rhF.iload_n (pc := 33) dX12_layFirst_33 3 rfl ?_
      refine rhF.iadd (pc := 34) dX12_layFirst_34 ?_
      refine rhF.ck (fun h7 => ?_)
      refine rhF.ck (fun h8 => ?_)
      refine rhF.iald (pc := 35) dX12_layFirst_35 h7 h8 ?_
      refine rhF.iload_n (pc := 36) dX12_layFirst_36 2 rfl ?_
      refine rhF.icmp_eq (pc := 37) 43 dX12_layFirst_37 (by decide) (fun h9 => ?_) (fun h9 => ?_)
      · refine rhF.aload_n (pc := 43) dX12_layFirst_43 0 rfl ?_
        refine rhF.get (pc := 44) (rhR _) dX12_layFirst_44 fl_X12_92 h4 rfl ?_
        refine rhF.iload_n (pc := 47) dX12_layFirst_47 1 rfl ?_
        refine rhF.iload_n (pc := 48) dX12_layFirst_48 3 rfl ?_
        refine rhF.ck (fun h10 => ?_)
        refine rhF.ck (fun h11 => ?_)
        refine rhF.iast (pc := 49) dX12_layFirst_49 h10 h11 ?_
        refine rhF.iinc (pc := 50) (L' := [(1, rhI _), (0, rhR _), (2, rhI _), (3, rhI _)]) dX12_layFirst_50 1 rfl rfl (by decide) rfl ?_
        refine rhF.sub [1, 0, 2, 3] rfl ?_
        exact (b_X12_layFirst_53 ih) _ _ _ _ _
      · refine rhF.goto (pc := 40) 53 dX12_layFirst_40 (by decide) ?_
        exact (b_X12_layFirst_53 ih) _ _ _ _ _
    · refine rhF.sub [0, 1, 2] rfl ?_
      exact hk59 _ _ _ _
set_option maxHeartbeats 4000000 in
set_option maxRecDepth 100000 in
theorem b_X12_layFirst_59 {E : rhE} {Γ : rhG} {k4 : rhM → Nat → Int32 → Int32 → Option (rhM)} (hk4 : ∀ (M : rhM) (v0 : Nat) (v1 : Int32) (v2 : Int32), rhF E 5 4 yX12_layFirst cX12_layFirst none Γ (rhe1U Γ) (k4 M v0 v1 v2) 4 [(0, rhR v0), (1, rhI v1), (2, rhI v2)] [] Γ M) : ∀ (M : rhM) (v0 : Nat) (v1 : Int32) (v2 : Int32), rhF E 5 4 yX12_layFirst cX12_layFirst none Γ (rhe1U Γ) (f_X12_layFirst_59 k4 Γ M v0 v1 v2) 59 [(0, rhR v0), (1, rhI v1), (2, rhI v2)] [] Γ M := by
  intro M v0 v1 v2
  rw [f_X12_layFirst_59]
  refine rhF.aload_n (pc := 59) dX12_layFirst_59 0 rfl ?_
  refine rhF.ck (fun h15 => ?_)
  refine rhF.get (pc := 60) (rhR _) dX12_layFirst_60 fl_X12_95 h15 rfl ?_
  refine rhF.iload_n (pc := 63) dX12_layFirst_63 2 rfl ?_
  refine rhF.iload_n (pc := 64) dX12_layFirst_64 1 rfl ?_
  refine rhF.ck (fun h16 => ?_)
  refine rhF.ck (fun h17 => ?_)
  refine rhF.iast (pc := 65) dX12_layFirst_65 h16 h17 ?_
  refine rhF.iinc (pc := 66) (L' := [(2, rhI _), (0, rhR _), (1, rhI _)]) dX12_layFirst_66 2 rfl rfl (by decide) rfl ?_
  refine rhF.goto (pc := 69) 4 dX12_layFirst_69 (by decide) ?_
  refine rhF.sub [1, 2, 0] rfl ?_
  exact hk4 _ _ _ _
set_option maxHeartbeats 4000000 in
set_option maxRecDepth 100000 in
theorem b_X12_layFirst_4 {E : rhE} {Γ : rhG} : ∀ (n : Nat) (M : rhM) (v0 : Nat) (v1 : Int32) (v2 : Int32), rhF E 5 4 yX12_layFirst cX12_layFirst none Γ (rhe1U Γ) (f_X12_layFirst_4 Γ n M v0 v1 v2) 4 [(0, rhR v0), (1, rhI v1), (2, rhI v2)] [] Γ M := by
  intro n
  induction n with
  | zero => intro M v0 v1 v2; rw [f_X12_layFirst_4]; exact rhF.nope
  | succ n ih =>
    intro M v0 v1 v2
    rw [f_X12_layFirst_4]
    refine rhF.iload_n (pc := 4) dX12_layFirst_4 2 rfl ?_
    refine rhF.aload_n (pc := 5) dX12_layFirst_5 0 rfl ?_
    refine rhF.ck (fun h1 => ?_)
    refine rhF.callV (pc := 6) (ci := 12) (embc := rhe0I _ _) [] dX12_layFirst_6 ml_X12_412 mv_X12_railMany ⟨_, rfl, rfl⟩ h1 (c_X12_railMany _ _ _ _) (by decide) (by decide) rfl (Nat.le_of_ble_eq_true rfl) (fun r2 _ => ?_)
    refine rhF.icmp_ge (pc := 9) 72 dX12_layFirst_9 (by decide) (fun h3 => ?_) (fun h3 => ?_)
    · refine rhF.iconst (pc := 12) (v := 0) dX12_layFirst_12 (by decide) ?_
      refine rhF.istore_n (pc := 13) (L' := [(3, rhI _), (0, rhR _), (1, rhI _), (2, rhI _)]) dX12_layFirst_13 (by decide) rfl ?_
      refine rhF.sub [1, 2, 3, 0] rfl ?_
      exact (b_X12_layFirst_14 (b_X12_layFirst_59 ih) rhFU) _ _ _ _ _
    · exact rhF.vret (pc := 72) dX12_layFirst_72 rfl rfl
set_option maxHeartbeats 4000000 in
set_option maxRecDepth 100000 in
theorem b_X12_layFirst {E : rhE} {Γ : rhG} : ∀ (M : rhM) (v0 : Nat), rhF E 5 4 yX12_layFirst cX12_layFirst none Γ (rhe1U Γ) (f_X12_layFirst Γ M v0) 0 [(0, rhR v0)] [] Γ M := by
  intro M v0
  rw [f_X12_layFirst]
  refine rhF.iconst (pc := 0) (v := 0) dX12_layFirst_0 (by decide) ?_
  refine rhF.istore_n (pc := 1) (L' := [(1, rhI _), (0, rhR _)]) dX12_layFirst_1 (by decide) rfl ?_
  refine rhF.iconst (pc := 2) (v := 0) dX12_layFirst_2 (by decide) ?_
  refine rhF.istore_n (pc := 3) (L' := [(2, rhI _), (1, rhI _), (0, rhR _)]) dX12_layFirst_3 (by decide) rfl ?_
  refine rhF.sub [2, 1, 0] rfl ?_
  exact (b_X12_layFirst_4 rhFU) _ _ _ _
theorem c_X12_layFirst (E : rhE) (Γ : rhG) (M : rhM) (v0 : Nat) : ∀ a, f_X12_layFirst Γ M v0 = some a → rhC E 5 yX12_layFirst cX12_layFirst 4 none [rhR v0] Γ M ((rhe1U Γ) a) := rhF.met (by decide +kernel) (Nat.le_of_ble_eq_true rfl) (b_X12_layFirst M v0)
def f_X12_begin (Γ : rhG) (M : rhM) (v0 : Nat) : Option (rhM) :=
  rhck (Γ.2.2.1 v0 = 13) <|
  (f_X12_layFirst Γ M v0).bind fun r2 =>
  (f_X12_keepNow Γ r2 v0).bind fun r3 =>
  let M4 := rhsi r3 v0 48 0
  let M5 := rhsi M4 v0 49 0
  some M5
set_option maxHeartbeats 4000000 in
set_option maxRecDepth 100000 in
theorem b_X12_begin {E : rhE} {Γ : rhG} : ∀ (M : rhM) (v0 : Nat), rhF E 6 1 yX12_begin cX12_begin none Γ (rhe1U Γ) (f_X12_begin Γ M v0) 0 [(0, rhR v0)] [] Γ M := by
  intro M v0
  rw [f_X12_begin]
  refine rhF.aload_n (pc := 0) dX12_begin_0 0 rfl ?_
  refine rhF.ck (fun h1 => ?_)
  refine rhF.callV (pc := 1) (ci := 12) (embc := rhe1U _) [] dX12_begin_1 ml_X12_452 mv_X12_layFirst ⟨_, rfl, rfl⟩ h1 (c_X12_layFirst _ _ _ _) (by decide) (by decide) rfl (Nat.le_of_ble_eq_true rfl) (fun r2 _ => ?_)
  refine rhF.aload_n (pc := 4) dX12_begin_4 0 rfl ?_
  refine rhF.callV (pc := 5) (ci := 12) (embc := rhe1U _) [] dX12_begin_5 ml_X12_455 mv_X12_keepNow ⟨_, rfl, rfl⟩ h1 (c_X12_keepNow _ _ _ _) (by decide) (by decide) rfl (Nat.le_of_ble_eq_true rfl) (fun r3 _ => ?_)
  refine rhF.aload_n (pc := 8) dX12_begin_8 0 rfl ?_
  refine rhF.iconst (pc := 9) (v := 0) dX12_begin_9 (by decide) ?_
  refine rhF.puti (pc := 10) dX12_begin_10 fl_X12_458 h1 (fun q hq => by cases hq; exact Or.inl rfl) ⟨rfl, rfl⟩ (fun _ => rfl) ?_
  refine rhF.aload_n (pc := 13) dX12_begin_13 0 rfl ?_
  refine rhF.iconst (pc := 14) (v := 0) dX12_begin_14 (by decide) ?_
  refine rhF.puti (pc := 15) dX12_begin_15 fl_X12_461 h1 (fun q hq => by cases hq; exact Or.inl rfl) ⟨rfl, rfl⟩ (fun _ => rfl) ?_
  exact rhF.vret (pc := 18) dX12_begin_18 rfl rfl
theorem c_X12_begin (E : rhE) (Γ : rhG) (M : rhM) (v0 : Nat) : ∀ a, f_X12_begin Γ M v0 = some a → rhC E 6 yX12_begin cX12_begin 1 none [rhR v0] Γ M ((rhe1U Γ) a) := rhF.met (by decide +kernel) (Nat.le_of_ble_eq_true rfl) (b_X12_begin M v0)
def f_X12_stateOf_51 (k22 : Nat → Int32 → Int32 → Int32 → Int32 → Int32 → Option (Int32)) (Γ : rhG) (M : rhM) (v0 : Nat) (v1 : Int32) (v2 : Int32) (v3 : Int32) (v5 : Int32) (s0 : Int32) (s1 : Int32) : Option (Int32) :=
  let x11 := s0 + s1
  let x12 : Int32 := v5 + 1
  k22 v0 v1 v2 v3 x11 x12
def f_X12_stateOf_22 (k60 : Nat → Int32 → Int32 → Int32 → Int32 → Option (Int32)) (Γ : rhG) (M : rhM) : Nat → Nat → Int32 → Int32 → Int32 → Int32 → Int32 → Option (Int32)
  | 0, _, _, _, _, _, _ => none
  | n + 1, v0, v1, v2, v3, v4, v5 =>
    if v5 < v1 then
      (rhck (Γ.2.2.1 v0 = 13) <|
      rhck (Γ.2.2.1 (M.2.2 v0 39) = 15) <|
      rhck (0 ≤ (v5).toInt ∧ (v5).toInt < (Γ.2.2.2 (M.2.2 v0 39) : Nat)) <|
      rhck (0 ≤ (v3).toInt ∧ (v3).toInt < (Γ.2.2.2 (M.2.2 v0 39) : Nat)) <|
      if (M.1 (M.2.2 v0 39) v5.toNatClampNeg) < (M.1 (M.2.2 v0 39) v3.toNatClampNeg) then
        (f_X12_stateOf_51 (f_X12_stateOf_22 k60 Γ M n) Γ M v0 v1 v2 v3 v5 v4 1)
      else
        f_X12_stateOf_51 (f_X12_stateOf_22 k60 Γ M n) Γ M v0 v1 v2 v3 v5 v4 0)
    else
      k60 v0 v1 v2 v3 v4
def f_X12_stateOf_60 (k9 : Nat → Int32 → Int32 → Int32 → Option (Int32)) (Γ : rhG) (M : rhM) (v0 : Nat) (v1 : Int32) (v2 : Int32) (v3 : Int32) (v4 : Int32) : Option (Int32) :=
  let x13 := (v2 * (v1 - v3)) + v4
  let x14 : Int32 := v3 + 1
  k9 v0 v1 x13 x14
def f_X12_stateOf_9 (k75 : Nat → Int32 → Option (Int32)) (Γ : rhG) (M : rhM) : Nat → Nat → Int32 → Int32 → Int32 → Option (Int32)
  | 0, _, _, _, _ => none
  | n + 1, v0, v1, v2, v3 =>
    if v3 < v1 then
      (let x4 := v3 + 1
      f_X12_stateOf_22 (f_X12_stateOf_60 (f_X12_stateOf_9 k75 Γ M n) Γ M) Γ M rhFU v0 v1 v2 v3 0 x4)
    else
      k75 v0 v2
def f_X12_stateOf_104 (k77 : Nat → Int32 → Int32 → Option (Int32)) (Γ : rhG) (M : rhM) (v0 : Nat) (v3 : Int32) (s0 : Int32) (s1 : Int32) : Option (Int32) :=
  let x21 := s0 + s1
  let x22 : Int32 := v3 + 1
  k77 v0 x21 x22
def f_X12_stateOf_77 (Γ : rhG) (M : rhM) : Nat → Nat → Int32 → Int32 → Option (Int32)
  | 0, _, _, _ => none
  | n + 1, v0, v2, v3 =>
    if v3 < 3 then
      (rhck (Γ.2.2.1 v0 = 13) <|
      (f_X12_railMany Γ M v0).bind fun r17 =>
      if v3 < r17 then
        (rhck (Γ.2.2.1 (M.2.2 v0 40) = 15) <|
        rhck (0 ≤ (v3).toInt ∧ (v3).toInt < (Γ.2.2.2 (M.2.2 v0 40) : Nat)) <|
        f_X12_stateOf_104 (f_X12_stateOf_77 Γ M n) Γ M v0 v3 (7 * v2) (M.1 (M.2.2 v0 40) v3.toNatClampNeg))
      else
        f_X12_stateOf_104 (f_X12_stateOf_77 Γ M n) Γ M v0 v3 (7 * v2) 0)
    else
      some v2
def f_X12_stateOf_75 (Γ : rhG) (M : rhM) (v0 : Nat) (v2 : Int32) : Option (Int32) :=
  f_X12_stateOf_77 Γ M rhFU v0 v2 0
def f_X12_stateOf (Γ : rhG) (M : rhM) (v0 : Nat) : Option (Int32) :=
  rhck (Γ.2.2.1 v0 = 13) <|
  (f_X12_houseMany Γ M v0).bind fun r2 =>
  f_X12_stateOf_9 (f_X12_stateOf_75 Γ M) Γ M rhFU v0 r2 0 0
set_option maxHeartbeats 4000000 in
set_option maxRecDepth 100000 in
theorem b_X12_stateOf_51 {E : rhE} {Γ : rhG} {M : rhM} {k22 : Nat → Int32 → Int32 → Int32 → Int32 → Int32 → Option (Int32)} (hk22 : ∀ (v0 : Nat) (v1 : Int32) (v2 : Int32) (v3 : Int32) (v4 : Int32) (v5 : Int32), rhF E 5 6 yX12_stateOf cX12_stateOf (some .int) Γ (rhe0I Γ M) (k22 v0 v1 v2 v3 v4 v5) 22 [(0, rhR v0), (1, rhI v1), (2, rhI v2), (3, rhI v3), (4, rhI v4), (5, rhI v5)] [] Γ M) : ∀ (v0 : Nat) (v1 : Int32) (v2 : Int32) (v3 : Int32) (v5 : Int32) (s0 : Int32) (s1 : Int32), rhF E 5 6 yX12_stateOf cX12_stateOf (some .int) Γ (rhe0I Γ M) (f_X12_stateOf_51 k22 Γ M v0 v1 v2 v3 v5 s0 s1) 51 [(0, rhR v0), (1, rhI v1), (2, rhI v2), (3, rhI v3), (5, rhI v5)] [rhI s1, rhI s0] Γ M := by
  intro v0 v1 v2 v3 v5 s0 s1
  rw [f_X12_stateOf_51]
  refine rhF.iadd (pc := 51) dX12_stateOf_51 ?_
  refine rhF.istore (pc := 52) (L' := [(4, rhI _), (0, rhR _), (1, rhI _), (2, rhI _), (3, rhI _), (5, rhI _)]) dX12_stateOf_52 (by decide) rfl ?_
  refine rhF.iinc (pc := 54) (L' := [(5, rhI _), (4, rhI _), (0, rhR _), (1, rhI _), (2, rhI _), (3, rhI _)]) dX12_stateOf_54 5 rfl rfl (by decide) rfl ?_
  refine rhF.goto (pc := 57) 22 dX12_stateOf_57 (by decide) ?_
  refine rhF.sub [2, 3, 4, 5, 1, 0] rfl ?_
  exact hk22 _ _ _ _ _ _
set_option maxHeartbeats 4000000 in
set_option maxRecDepth 100000 in
theorem b_X12_stateOf_22 {E : rhE} {Γ : rhG} {M : rhM} {k60 : Nat → Int32 → Int32 → Int32 → Int32 → Option (Int32)} (hk60 : ∀ (v0 : Nat) (v1 : Int32) (v2 : Int32) (v3 : Int32) (v4 : Int32), rhF E 5 6 yX12_stateOf cX12_stateOf (some .int) Γ (rhe0I Γ M) (k60 v0 v1 v2 v3 v4) 60 [(0, rhR v0), (1, rhI v1), (2, rhI v2), (3, rhI v3), (4, rhI v4)] [] Γ M) : ∀ (n : Nat) (v0 : Nat) (v1 : Int32) (v2 : Int32) (v3 : Int32) (v4 : Int32) (v5 : Int32), rhF E 5 6 yX12_stateOf cX12_stateOf (some .int) Γ (rhe0I Γ M) (f_X12_stateOf_22 k60 Γ M n v0 v1 v2 v3 v4 v5) 22 [(0, rhR v0), (1, rhI v1), (2, rhI v2), (3, rhI v3), (4, rhI v4), (5, rhI v5)] [] Γ M := by
  intro n
  induction n with
  | zero => intro v0 v1 v2 v3 v4 v5; rw [f_X12_stateOf_22]; exact rhF.nope
  | succ n ih =>
    intro v0 v1 v2 v3 v4 v5
    rw [f_X12_stateOf_22]
    refine rhF.iload (pc := 22) dX12_stateOf_22 5 rfl ?_
    refine rhF.iload_n (pc := 24) dX12_stateOf_24 1 rfl ?_
    refine rhF.icmp_ge (pc := 25) 60 dX12_stateOf_25 (by decide) (fun h5 => ?_) (fun h5 => ?_)
    · refine rhF.iload (pc := 28) dX12_stateOf_28 4 rfl ?_
      refine rhF.aload_n (pc := 30) dX12_stateOf_30 0 rfl ?_
      refine rhF.ck (fun h6 => ?_)
      refine rhF.get (pc := 31) (rhR _) dX12_stateOf_31 fl_X12_92 h6 rfl ?_
      refine rhF.iload (pc := 34) dX12_stateOf_34 5 rfl ?_
      refine rhF.ck (fun h7 => ?_)
      refine rhF.ck (fun h8 => ?_)
      refine rhF.iald (pc := 36) dX12_stateOf_36 h7 h8 ?_
      refine rhF.aload_n (pc := 37) dX12_stateOf_37 0 rfl ?_
      refine rhF.get (pc := 38) (rhR _) dX12_stateOf_38 fl_X12_92 h6 rfl ?_
      refine rhF.iload_n (pc := 41) dX12_stateOf_41 3 rfl ?_
      refine rhF.ck (fun h9 => ?_)
      refine rhF.iald (pc := 42) dX12_stateOf_42 h7 h9 ?_
      refine rhF.icmp_ge (pc := 43) 50 dX12_stateOf_43 (by decide) (fun h10 => ?_) (fun h10 => ?_)
      · refine rhF.iconst (pc := 46) (v := 1) dX12_stateOf_46 (by decide) ?_
        refine rhF.goto (pc := 47) 51 dX12_stateOf_47 (by decide) ?_
        refine rhF.sub [0, 1, 2, 3, 5] rfl ?_
        exact (b_X12_stateOf_51 ih) _ _ _ _ _ _ _
      · refine rhF.iconst (pc := 50) (v := 0) dX12_stateOf_50 (by decide) ?_
        refine rhF.sub [0, 1, 2, 3, 5] rfl ?_
        exact (b_X12_stateOf_51 ih) _ _ _ _ _ _ _
    · refine rhF.sub [0, 1, 2, 3, 4] rfl ?_
      exact hk60 _ _ _ _ _
set_option maxHeartbeats 4000000 in
set_option maxRecDepth 100000 in
theorem b_X12_stateOf_60 {E : rhE} {Γ : rhG} {M : rhM} {k9 : Nat → Int32 → Int32 → Int32 → Option (Int32)} (hk9 : ∀ (v0 : Nat) (v1 : Int32) (v2 : Int32) (v3 : Int32), rhF E 5 6 yX12_stateOf cX12_stateOf (some .int) Γ (rhe0I Γ M) (k9 v0 v1 v2 v3) 9 [(0, rhR v0), (1, rhI v1), (2, rhI v2), (3, rhI v3)] [] Γ M) : ∀ (v0 : Nat) (v1 : Int32) (v2 : Int32) (v3 : Int32) (v4 : Int32), rhF E 5 6 yX12_stateOf cX12_stateOf (some .int) Γ (rhe0I Γ M) (f_X12_stateOf_60 k9 Γ M v0 v1 v2 v3 v4) 60 [(0, rhR v0), (1, rhI v1), (2, rhI v2), (3, rhI v3), (4, rhI v4)] [] Γ M := by
  intro v0 v1 v2 v3 v4
  rw [f_X12_stateOf_60]
  refine rhF.iload_n (pc := 60) dX12_stateOf_60 2 rfl ?_
  refine rhF.iload_n (pc := 61) dX12_stateOf_61 1 rfl ?_
  refine rhF.iload_n (pc := 62) dX12_stateOf_62 3 rfl ?_
  refine rhF.isub (pc := 63) dX12_stateOf_63 ?_
  refine rhF.imul (pc := 64) dX12_stateOf_64 ?_
  refine rhF.iload (pc := 65) dX12_stateOf_65 4 rfl ?_
  refine rhF.iadd (pc := 67) dX12_stateOf_67 ?_
  refine rhF.istore_n (pc := 68) (L' := [(2, rhI _), (0, rhR _), (1, rhI _), (3, rhI _), (4, rhI _)]) dX12_stateOf_68 (by decide) rfl ?_
  refine rhF.iinc (pc := 69) (L' := [(3, rhI _), (2, rhI _), (0, rhR _), (1, rhI _), (4, rhI _)]) dX12_stateOf_69 3 rfl rfl (by decide) rfl ?_
  refine rhF.goto (pc := 72) 9 dX12_stateOf_72 (by decide) ?_
  refine rhF.sub [2, 3, 1, 0] rfl ?_
  exact hk9 _ _ _ _
set_option maxHeartbeats 4000000 in
set_option maxRecDepth 100000 in
theorem b_X12_stateOf_9 {E : rhE} {Γ : rhG} {M : rhM} {k75 : Nat → Int32 → Option (Int32)} (hk75 : ∀ (v0 : Nat) (v2 : Int32), rhF E 5 6 yX12_stateOf cX12_stateOf (some .int) Γ (rhe0I Γ M) (k75 v0 v2) 75 [(0, rhR v0), (2, rhI v2)] [] Γ M) : ∀ (n : Nat) (v0 : Nat) (v1 : Int32) (v2 : Int32) (v3 : Int32), rhF E 5 6 yX12_stateOf cX12_stateOf (some .int) Γ (rhe0I Γ M) (f_X12_stateOf_9 k75 Γ M n v0 v1 v2 v3) 9 [(0, rhR v0), (1, rhI v1), (2, rhI v2), (3, rhI v3)] [] Γ M := by
  intro n
  induction n with
  | zero => intro v0 v1 v2 v3; rw [f_X12_stateOf_9]; exact rhF.nope
  | succ n ih =>
    intro v0 v1 v2 v3
    rw [f_X12_stateOf_9]
    refine rhF.iload_n (pc := 9) dX12_stateOf_9 3 rfl ?_
    refine rhF.iload_n (pc := 10) dX12_stateOf_10 1 rfl ?_
    refine rhF.icmp_ge (pc := 11) 75 dX12_stateOf_11 (by decide) (fun h3 => ?_) (fun h3 => ?_)
    · refine rhF.iconst (pc := 14) (v := 0) dX12_stateOf_14 (by decide) ?_
      refine rhF.istore (pc := 15) (L' := [(4, rhI _), (0, rhR _), (1, rhI _), (2, rhI _), (3, rhI _)]) dX12_stateOf_15 (by decide) rfl ?_
      refine rhF.iload_n (pc := 17) dX12_stateOf_17 4 rfl ?_
      refine rhF.iconst (pc := 18) (v := 1) dX12_stateOf_18 (by decide) ?_
      refine rhF.iadd (pc := 19) dX12_stateOf_19 ?_
      refine rhF.istore (pc := 20) (L' := [(5, rhI _), (4, rhI _), (0, rhR _), (1, rhI _), (2, rhI _), (3, rhI _)]) dX12_stateOf_20 (by decide) rfl ?_
      refine rhF.sub [2, 3, 4, 5, 1, 0] rfl ?_
      exact (b_X12_stateOf_22 (b_X12_stateOf_60 ih) rhFU) _ _ _ _ _ _
    · refine rhF.sub [0, 2] rfl ?_
      exact hk75 _ _
set_option maxHeartbeats 4000000 in
set_option maxRecDepth 100000 in
theorem b_X12_stateOf_104 {E : rhE} {Γ : rhG} {M : rhM} {k77 : Nat → Int32 → Int32 → Option (Int32)} (hk77 : ∀ (v0 : Nat) (v2 : Int32) (v3 : Int32), rhF E 5 6 yX12_stateOf cX12_stateOf (some .int) Γ (rhe0I Γ M) (k77 v0 v2 v3) 77 [(0, rhR v0), (2, rhI v2), (3, rhI v3)] [] Γ M) : ∀ (v0 : Nat) (v3 : Int32) (s0 : Int32) (s1 : Int32), rhF E 5 6 yX12_stateOf cX12_stateOf (some .int) Γ (rhe0I Γ M) (f_X12_stateOf_104 k77 Γ M v0 v3 s0 s1) 104 [(0, rhR v0), (3, rhI v3)] [rhI s1, rhI s0] Γ M := by
  intro v0 v3 s0 s1
  rw [f_X12_stateOf_104]
  refine rhF.iadd (pc := 104) dX12_stateOf_104 ?_
  refine rhF.istore_n (pc := 105) (L' := [(2, rhI _), (0, rhR _), (3, rhI _)]) dX12_stateOf_105 (by decide) rfl ?_
  refine rhF.iinc (pc := 106) (L' := [(3, rhI _), (2, rhI _), (0, rhR _)]) dX12_stateOf_106 2 rfl rfl (by decide) rfl ?_
  refine rhF.goto (pc := 109) 77 dX12_stateOf_109 (by decide) ?_
  refine rhF.sub [2, 1, 0] rfl ?_
  exact hk77 _ _ _
set_option maxHeartbeats 4000000 in
set_option maxRecDepth 100000 in
theorem b_X12_stateOf_77 {E : rhE} {Γ : rhG} {M : rhM} : ∀ (n : Nat) (v0 : Nat) (v2 : Int32) (v3 : Int32), rhF E 5 6 yX12_stateOf cX12_stateOf (some .int) Γ (rhe0I Γ M) (f_X12_stateOf_77 Γ M n v0 v2 v3) 77 [(0, rhR v0), (2, rhI v2), (3, rhI v3)] [] Γ M := by
  intro n
  induction n with
  | zero => intro v0 v2 v3; rw [f_X12_stateOf_77]; exact rhF.nope
  | succ n ih =>
    intro v0 v2 v3
    rw [f_X12_stateOf_77]
    refine rhF.iload_n (pc := 77) dX12_stateOf_77 2 rfl ?_
    refine rhF.iconst (pc := 78) (v := 3) dX12_stateOf_78 (by decide) ?_
    refine rhF.icmp_ge (pc := 79) 112 dX12_stateOf_79 (by decide) (fun h15 => ?_) (fun h15 => ?_)
    · refine rhF.bipush (pc := 82) (v := 7) dX12_stateOf_82 (by decide) ?_
      refine rhF.iload_n (pc := 84) dX12_stateOf_84 1 rfl ?_
      refine rhF.imul (pc := 85) dX12_stateOf_85 ?_
      refine rhF.iload_n (pc := 86) dX12_stateOf_86 2 rfl ?_
      refine rhF.aload_n (pc := 87) dX12_stateOf_87 0 rfl ?_
      refine rhF.ck (fun h16 => ?_)
      refine rhF.callV (pc := 88) (ci := 12) (embc := rhe0I _ _) [] dX12_stateOf_88 ml_X12_412 mv_X12_railMany ⟨_, rfl, rfl⟩ h16 (c_X12_railMany _ _ _ _) (by decide) (by decide) rfl (Nat.le_of_ble_eq_true rfl) (fun r17 _ => ?_)
      refine rhF.icmp_ge (pc := 91) 103 dX12_stateOf_91 (by decide) (fun h18 => ?_) (fun h18 => ?_)
      · refine rhF.aload_n (pc := 94) dX12_stateOf_94 0 rfl ?_
        refine rhF.get (pc := 95) (rhR _) dX12_stateOf_95 fl_X12_95 h16 rfl ?_
        refine rhF.iload_n (pc := 98) dX12_stateOf_98 2 rfl ?_
        refine rhF.ck (fun h19 => ?_)
        refine rhF.ck (fun h20 => ?_)
        refine rhF.iald (pc := 99) dX12_stateOf_99 h19 h20 ?_
        refine rhF.goto (pc := 100) 104 dX12_stateOf_100 (by decide) ?_
        refine rhF.sub [0, 2] rfl ?_
        exact (b_X12_stateOf_104 ih) _ _ _ _
      · refine rhF.iconst (pc := 103) (v := 0) dX12_stateOf_103 (by decide) ?_
        refine rhF.sub [0, 2] rfl ?_
        exact (b_X12_stateOf_104 ih) _ _ _ _
    · refine rhF.iload_n (pc := 112) dX12_stateOf_112 1 rfl ?_
      exact rhF.zret (pc := 113) dX12_stateOf_113 rfl rfl rfl
set_option maxHeartbeats 4000000 in
set_option maxRecDepth 100000 in
theorem b_X12_stateOf_75 {E : rhE} {Γ : rhG} {M : rhM} : ∀ (v0 : Nat) (v2 : Int32), rhF E 5 6 yX12_stateOf cX12_stateOf (some .int) Γ (rhe0I Γ M) (f_X12_stateOf_75 Γ M v0 v2) 75 [(0, rhR v0), (2, rhI v2)] [] Γ M := by
  intro v0 v2
  rw [f_X12_stateOf_75]
  refine rhF.iconst (pc := 75) (v := 0) dX12_stateOf_75 (by decide) ?_
  refine rhF.istore_n (pc := 76) (L' := [(3, rhI _), (0, rhR _), (2, rhI _)]) dX12_stateOf_76 (by decide) rfl ?_
  refine rhF.sub [1, 2, 0] rfl ?_
  exact (b_X12_stateOf_77 rhFU) _ _ _
set_option maxHeartbeats 4000000 in
set_option maxRecDepth 100000 in
theorem b_X12_stateOf {E : rhE} {Γ : rhG} {M : rhM} : ∀ (v0 : Nat), rhF E 5 6 yX12_stateOf cX12_stateOf (some .int) Γ (rhe0I Γ M) (f_X12_stateOf Γ M v0) 0 [(0, rhR v0)] [] Γ M := by
  intro v0
  rw [f_X12_stateOf]
  refine rhF.aload_n (pc := 0) dX12_stateOf_0 0 rfl ?_
  refine rhF.ck (fun h1 => ?_)
  refine rhF.callV (pc := 1) (ci := 12) (embc := rhe0I _ _) [] dX12_stateOf_1 ml_X12_419 mv_X12_houseMany ⟨_, rfl, rfl⟩ h1 (c_X12_houseMany _ _ _ _) (by decide) (by decide) rfl (Nat.le_of_ble_eq_true rfl) (fun r2 _ => ?_)
  refine rhF.istore_n (pc := 4) (L' := [(1, rhI _), (0, rhR _)]) dX12_stateOf_4 (by decide) rfl ?_
  refine rhF.iconst (pc := 5) (v := 0) dX12_stateOf_5 (by decide) ?_
  refine rhF.istore_n (pc := 6) (L' := [(2, rhI _), (1, rhI _), (0, rhR _)]) dX12_stateOf_6 (by decide) rfl ?_
  refine rhF.iconst (pc := 7) (v := 0) dX12_stateOf_7 (by decide) ?_
  refine rhF.istore_n (pc := 8) (L' := [(3, rhI _), (2, rhI _), (1, rhI _), (0, rhR _)]) dX12_stateOf_8 (by decide) rfl ?_
  refine rhF.sub [3, 2, 1, 0] rfl ?_
  exact (b_X12_stateOf_9 (b_X12_stateOf_75) rhFU) _ _ _ _
theorem c_X12_stateOf (E : rhE) (Γ : rhG) (M : rhM) (v0 : Nat) : ∀ a, f_X12_stateOf Γ M v0 = some a → rhC E 5 yX12_stateOf cX12_stateOf 6 (some .int) [rhR v0] Γ M ((rhe0I Γ M) a) := rhF.met (by decide +kernel) (Nat.le_of_ble_eq_true rfl) (b_X12_stateOf v0)
def f_X12_begins_2 (k21 : rhM → Nat → Option (rhM)) (Γ : rhG) : Nat → rhM → Nat → Int32 → Option (rhM)
  | 0, _, _, _ => none
  | n + 1, M, v0, v1 =>
    if v1 < 246960 then
      (rhck (Γ.2.2.1 v0 = 13) <|
      rhck (Γ.2.2.1 (M.2.2 v0 56) = 15) <|
      rhck (0 ≤ (v1).toInt ∧ (v1).toInt < (Γ.2.2.2 (M.2.2 v0 56) : Nat)) <|
      let M5 := rhsi M (M.2.2 v0 56) (v1 : Int32).toNatClampNeg ((-1))
      let x6 : Int32 := v1 + 1
      f_X12_begins_2 k21 Γ n M5 v0 x6)
    else
      k21 M v0
def f_X12_begins_21 (Γ : rhG) (M : rhM) (v0 : Nat) : Option (rhM) :=
  rhck (Γ.2.2.1 v0 = 13) <|
  (f_X12_layNow Γ M v0).bind fun r8 =>
  (f_X12_stateOf Γ r8 v0).bind fun r9 =>
  rhck (Γ.2.2.1 (r8.2.2 v0 56) = 15) <|
  rhck (0 ≤ (r9).toInt ∧ (r9).toInt < (Γ.2.2.2 (r8.2.2 v0 56) : Nat)) <|
  let M12 := rhsi r8 (r8.2.2 v0 56) (r9 : Int32).toNatClampNeg 0
  rhck (Γ.2.2.1 (r8.2.2 v0 55) = 15) <|
  rhck (0 ≤ (r9).toInt ∧ (r9).toInt < (Γ.2.2.2 (r8.2.2 v0 55) : Nat)) <|
  let M15 := rhsi M12 (r8.2.2 v0 55) (r9 : Int32).toNatClampNeg ((-1))
  rhck (Γ.2.2.1 (r8.2.2 v0 58) = 15) <|
  rhck (0 ≤ (0 : Int32).toInt ∧ (0 : Int32).toInt < (Γ.2.2.2 (r8.2.2 v0 58) : Nat)) <|
  let M18 := rhsi M15 (r8.2.2 v0 58) (0 : Int32).toNatClampNeg r9
  let M19 := rhsi M18 v0 60 1
  some M19
def f_X12_begins (Γ : rhG) (M : rhM) (v0 : Nat) : Option (rhM) :=
  f_X12_begins_2 (f_X12_begins_21 Γ) Γ rhFU M v0 0
set_option maxHeartbeats 4000000 in
set_option maxRecDepth 100000 in
theorem b_X12_begins_2 {E : rhE} {Γ : rhG} {k21 : rhM → Nat → Option (rhM)} (hk21 : ∀ (M : rhM) (v0 : Nat), rhF E 6 2 yX12_begins cX12_begins none Γ (rhe1U Γ) (k21 M v0) 21 [(0, rhR v0)] [] Γ M) : ∀ (n : Nat) (M : rhM) (v0 : Nat) (v1 : Int32), rhF E 6 2 yX12_begins cX12_begins none Γ (rhe1U Γ) (f_X12_begins_2 k21 Γ n M v0 v1) 2 [(0, rhR v0), (1, rhI v1)] [] Γ M := by
  intro n
  induction n with
  | zero => intro M v0 v1; rw [f_X12_begins_2]; exact rhF.nope
  | succ n ih =>
    intro M v0 v1
    rw [f_X12_begins_2]
    refine rhF.iload_n (pc := 2) dX12_begins_2 1 rfl ?_
    refine rhF.ldc (pc := 3) dX12_begins_3 k_X12_122 ?_
    refine rhF.icmp_ge (pc := 5) 21 dX12_begins_5 (by decide) (fun h1 => ?_) (fun h1 => ?_)
    · refine rhF.aload_n (pc := 8) dX12_begins_8 0 rfl ?_
      refine rhF.ck (fun h2 => ?_)
      refine rhF.get (pc := 9) (rhR _) dX12_begins_9 fl_X12_129 h2 rfl ?_
      refine rhF.iload_n (pc := 12) dX12_begins_12 1 rfl ?_
      refine rhF.iconst (pc := 13) (v := (-1)) dX12_begins_13 (by decide) ?_
      refine rhF.ck (fun h3 => ?_)
      refine rhF.ck (fun h4 => ?_)
      refine rhF.iast (pc := 14) dX12_begins_14 h3 h4 ?_
      refine rhF.iinc (pc := 15) (L' := [(1, rhI _), (0, rhR _)]) dX12_begins_15 1 rfl rfl (by decide) rfl ?_
      refine rhF.goto (pc := 18) 2 dX12_begins_18 (by decide) ?_
      refine rhF.sub [1, 0] rfl ?_
      exact ih _ _ _
    · refine rhF.sub [0] rfl ?_
      exact hk21 _ _
set_option maxHeartbeats 4000000 in
set_option maxRecDepth 100000 in
theorem b_X12_begins_21 {E : rhE} {Γ : rhG} : ∀ (M : rhM) (v0 : Nat), rhF E 6 2 yX12_begins cX12_begins none Γ (rhe1U Γ) (f_X12_begins_21 Γ M v0) 21 [(0, rhR v0)] [] Γ M := by
  intro M v0
  rw [f_X12_begins_21]
  refine rhF.aload_n (pc := 21) dX12_begins_21 0 rfl ?_
  refine rhF.ck (fun h7 => ?_)
  refine rhF.callV (pc := 22) (ci := 12) (embc := rhe1U _) [] dX12_begins_22 ml_X12_467 mv_X12_layNow ⟨_, rfl, rfl⟩ h7 (c_X12_layNow _ _ _ _) (by decide) (by decide) rfl (Nat.le_of_ble_eq_true rfl) (fun r8 _ => ?_)
  refine rhF.aload_n (pc := 25) dX12_begins_25 0 rfl ?_
  refine rhF.callV (pc := 26) (ci := 12) (embc := rhe0I _ _) [] dX12_begins_26 ml_X12_490 mv_X12_stateOf ⟨_, rfl, rfl⟩ h7 (c_X12_stateOf _ _ _ _) (by decide) (by decide) rfl (Nat.le_of_ble_eq_true rfl) (fun r9 _ => ?_)
  refine rhF.istore_n (pc := 29) (L' := [(1, rhI _), (0, rhR _)]) dX12_begins_29 (by decide) rfl ?_
  refine rhF.aload_n (pc := 30) dX12_begins_30 1 rfl ?_
  refine rhF.get (pc := 31) (rhR _) dX12_begins_31 fl_X12_129 h7 rfl ?_
  refine rhF.iload_n (pc := 34) dX12_begins_34 0 rfl ?_
  refine rhF.iconst (pc := 35) (v := 0) dX12_begins_35 (by decide) ?_
  refine rhF.ck (fun h10 => ?_)
  refine rhF.ck (fun h11 => ?_)
  refine rhF.iast (pc := 36) dX12_begins_36 h10 h11 ?_
  refine rhF.aload_n (pc := 37) dX12_begins_37 1 rfl ?_
  refine rhF.get (pc := 38) (rhR _) dX12_begins_38 fl_X12_126 h7 rfl ?_
  refine rhF.iload_n (pc := 41) dX12_begins_41 0 rfl ?_
  refine rhF.iconst (pc := 42) (v := (-1)) dX12_begins_42 (by decide) ?_
  refine rhF.ck (fun h13 => ?_)
  refine rhF.ck (fun h14 => ?_)
  refine rhF.iast (pc := 43) dX12_begins_43 h13 h14 ?_
  refine rhF.aload_n (pc := 44) dX12_begins_44 1 rfl ?_
  refine rhF.get (pc := 45) (rhR _) dX12_begins_45 fl_X12_136 h7 rfl ?_
  refine rhF.iconst (pc := 48) (v := 0) dX12_begins_48 (by decide) ?_
  refine rhF.iload_n (pc := 49) dX12_begins_49 0 rfl ?_
  refine rhF.ck (fun h16 => ?_)
  refine rhF.ck (fun h17 => ?_)
  refine rhF.iast (pc := 50) dX12_begins_50 h16 h17 ?_
  refine rhF.aload_n (pc := 51) dX12_begins_51 1 rfl ?_
  refine rhF.iconst (pc := 52) (v := 1) dX12_begins_52 (by decide) ?_
  refine rhF.puti (pc := 53) dX12_begins_53 fl_X12_493 h7 (fun q hq => by cases hq; exact Or.inl rfl) ⟨rfl, rfl⟩ (fun _ => rfl) ?_
  exact rhF.vret (pc := 56) dX12_begins_56 rfl rfl
set_option maxHeartbeats 4000000 in
set_option maxRecDepth 100000 in
theorem b_X12_begins {E : rhE} {Γ : rhG} : ∀ (M : rhM) (v0 : Nat), rhF E 6 2 yX12_begins cX12_begins none Γ (rhe1U Γ) (f_X12_begins Γ M v0) 0 [(0, rhR v0)] [] Γ M := by
  intro M v0
  rw [f_X12_begins]
  refine rhF.iconst (pc := 0) (v := 0) dX12_begins_0 (by decide) ?_
  refine rhF.istore_n (pc := 1) (L' := [(1, rhI _), (0, rhR _)]) dX12_begins_1 (by decide) rfl ?_
  refine rhF.sub [1, 0] rfl ?_
  exact (b_X12_begins_2 (b_X12_begins_21) rhFU) _ _ _
theorem c_X12_begins (E : rhE) (Γ : rhG) (M : rhM) (v0 : Nat) : ∀ a, f_X12_begins Γ M v0 = some a → rhC E 6 yX12_begins cX12_begins 2 none [rhR v0] Γ M ((rhe1U Γ) a) := rhF.met (by decide +kernel) (Nat.le_of_ble_eq_true rfl) (b_X12_begins M v0)
def f_X12_emit (Γ : rhG) (M : rhM) (v0 : Nat) (v1 : Int32) (v2 : Int32) : Option (rhM) :=
  rhck (Γ.2.2.1 v0 = 13) <|
  rhck (Γ.2.2.1 (M.2.2 v0 29) = 15) <|
  rhck (0 ≤ (M.1 v0 36).toInt ∧ (M.1 v0 36).toInt < (Γ.2.2.2 (M.2.2 v0 29) : Nat)) <|
  let M4 := rhsi M (M.2.2 v0 29) (M.1 v0 36 : Int32).toNatClampNeg v1
  rhck (Γ.2.2.1 (M.2.2 v0 30) = 15) <|
  rhck (0 ≤ (M4.1 v0 36).toInt ∧ (M4.1 v0 36).toInt < (Γ.2.2.2 (M.2.2 v0 30) : Nat)) <|
  let M7 := rhsi M4 (M.2.2 v0 30) (M4.1 v0 36 : Int32).toNatClampNeg v2
  let M8 := rhsi M7 v0 36 ((M7.1 v0 36) + 1)
  some M8
set_option maxHeartbeats 4000000 in
set_option maxRecDepth 100000 in
theorem b_X12_emit {E : rhE} {Γ : rhG} : ∀ (M : rhM) (v0 : Nat) (v1 : Int32) (v2 : Int32), rhF E 1 3 yX12_emit cX12_emit none Γ (rhe1U Γ) (f_X12_emit Γ M v0 v1 v2) 0 [(0, rhR v0), (1, rhI v1), (2, rhI v2)] [] Γ M := by
  intro M v0 v1 v2
  rw [f_X12_emit]
  refine rhF.aload_n (pc := 0) dX12_emit_0 0 rfl ?_
  refine rhF.ck (fun h1 => ?_)
  refine rhF.get (pc := 1) (rhR _) dX12_emit_1 fl_X12_77 h1 rfl ?_
  refine rhF.aload_n (pc := 4) dX12_emit_4 0 rfl ?_
  refine rhF.get (pc := 5) (rhI _) dX12_emit_5 fl_X12_321 h1 rfl ?_
  refine rhF.iload_n (pc := 8) dX12_emit_8 1 rfl ?_
  refine rhF.ck (fun h2 => ?_)
  refine rhF.ck (fun h3 => ?_)
  refine rhF.iast (pc := 9) dX12_emit_9 h2 h3 ?_
  refine rhF.aload_n (pc := 10) dX12_emit_10 0 rfl ?_
  refine rhF.get (pc := 11) (rhR _) dX12_emit_11 fl_X12_80 h1 rfl ?_
  refine rhF.aload_n (pc := 14) dX12_emit_14 0 rfl ?_
  refine rhF.get (pc := 15) (rhI _) dX12_emit_15 fl_X12_321 h1 rfl ?_
  refine rhF.iload_n (pc := 18) dX12_emit_18 2 rfl ?_
  refine rhF.ck (fun h5 => ?_)
  refine rhF.ck (fun h6 => ?_)
  refine rhF.iast (pc := 19) dX12_emit_19 h5 h6 ?_
  refine rhF.aload_n (pc := 20) dX12_emit_20 0 rfl ?_
  refine rhF.dupr (pc := 21) dX12_emit_21 ?_
  refine rhF.get (pc := 22) (rhI _) dX12_emit_22 fl_X12_321 h1 rfl ?_
  refine rhF.iconst (pc := 25) (v := 1) dX12_emit_25 (by decide) ?_
  refine rhF.iadd (pc := 26) dX12_emit_26 ?_
  refine rhF.puti (pc := 27) dX12_emit_27 fl_X12_321 h1 (fun q hq => by cases hq; exact Or.inl rfl) ⟨rfl, rfl⟩ (fun _ => rfl) ?_
  exact rhF.vret (pc := 30) dX12_emit_30 rfl rfl
theorem c_X12_emit (E : rhE) (Γ : rhG) (M : rhM) (v0 : Nat) (v1 : Int32) (v2 : Int32) : ∀ a, f_X12_emit Γ M v0 v1 v2 = some a → rhC E 1 yX12_emit cX12_emit 3 none [rhR v0, rhI v1, rhI v2] Γ M ((rhe1U Γ) a) := rhF.met (by decide +kernel) (Nat.le_of_ble_eq_true rfl) (b_X12_emit M v0 v1 v2)
def f_X12_isCompared_28 (k7 : Nat → Int32 → Option (Int32)) (Γ : rhG) (M : rhM) (v0 : Nat) (v1 : Int32) : Option (Int32) :=
  let x7 : Int32 := v1 + (-1)
  k7 v0 x7
def f_X12_isCompared_7 (k34 : Nat → Int32 → Option (Int32)) (Γ : rhG) (M : rhM) : Nat → Nat → Int32 → Option (Int32)
  | 0, _, _ => none
  | n + 1, v0, v1 =>
    rhck (Γ.2.2.1 v0 = 13) <|
    rhck (Γ.2.2.1 (M.2.2 v0 31) = 15) <|
    rhck (0 ≤ (v1).toInt ∧ (v1).toInt < (Γ.2.2.2 (M.2.2 v0 31) : Nat)) <|
    if (M.1 (M.2.2 v0 31) v1.toNatClampNeg) = 5 then
      (f_X12_isCompared_28 (f_X12_isCompared_7 k34 Γ M n) Γ M v0 v1)
    else
      if (M.1 (M.2.2 v0 31) v1.toNatClampNeg) = 6 then
        (f_X12_isCompared_28 (f_X12_isCompared_7 k34 Γ M n) Γ M v0 v1)
      else
        k34 v0 v1
def f_X12_isCompared_34 (Γ : rhG) (M : rhM) (v0 : Nat) (v1 : Int32) : Option (Int32) :=
  rhck (Γ.2.2.1 v0 = 13) <|
  rhck (Γ.2.2.1 (M.2.2 v0 31) = 15) <|
  rhck (0 ≤ (v1).toInt ∧ (v1).toInt < (Γ.2.2.2 (M.2.2 v0 31) : Nat)) <|
  if (M.1 (M.2.2 v0 31) v1.toNatClampNeg) = 4 then
    (some 1)
  else
    some 0
def f_X12_isCompared (Γ : rhG) (M : rhM) (v0 : Nat) : Option (Int32) :=
  rhck (Γ.2.2.1 v0 = 13) <|
  let x2 := (M.1 v0 38) - 1
  f_X12_isCompared_7 (f_X12_isCompared_34 Γ M) Γ M rhFU v0 x2
set_option maxHeartbeats 4000000 in
set_option maxRecDepth 100000 in
theorem b_X12_isCompared_28 {E : rhE} {Γ : rhG} {M : rhM} {k7 : Nat → Int32 → Option (Int32)} (hk7 : ∀ (v0 : Nat) (v1 : Int32), rhF E 1 2 yX12_isCompared cX12_isCompared (some .boolean) Γ (rhe0I Γ M) (k7 v0 v1) 7 [(0, rhR v0), (1, rhI v1)] [] Γ M) : ∀ (v0 : Nat) (v1 : Int32), rhF E 1 2 yX12_isCompared cX12_isCompared (some .boolean) Γ (rhe0I Γ M) (f_X12_isCompared_28 k7 Γ M v0 v1) 28 [(0, rhR v0), (1, rhI v1)] [] Γ M := by
  intro v0 v1
  rw [f_X12_isCompared_28]
  refine rhF.iinc (pc := 28) (L' := [(1, rhI _), (0, rhR _)]) dX12_isCompared_28 1 rfl rfl (by decide) rfl ?_
  refine rhF.goto (pc := 31) 7 dX12_isCompared_31 (by decide) ?_
  refine rhF.sub [1, 0] rfl ?_
  exact hk7 _ _
set_option maxHeartbeats 4000000 in
set_option maxRecDepth 100000 in
theorem b_X12_isCompared_7 {E : rhE} {Γ : rhG} {M : rhM} {k34 : Nat → Int32 → Option (Int32)} (hk34 : ∀ (v0 : Nat) (v1 : Int32), rhF E 1 2 yX12_isCompared cX12_isCompared (some .boolean) Γ (rhe0I Γ M) (k34 v0 v1) 34 [(0, rhR v0), (1, rhI v1)] [] Γ M) : ∀ (n : Nat) (v0 : Nat) (v1 : Int32), rhF E 1 2 yX12_isCompared cX12_isCompared (some .boolean) Γ (rhe0I Γ M) (f_X12_isCompared_7 k34 Γ M n v0 v1) 7 [(0, rhR v0), (1, rhI v1)] [] Γ M := by
  intro n
  induction n with
  | zero => intro v0 v1; rw [f_X12_isCompared_7]; exact rhF.nope
  | succ n ih =>
    intro v0 v1
    rw [f_X12_isCompared_7]
    refine rhF.aload_n (pc := 7) dX12_isCompared_7 0 rfl ?_
    refine rhF.ck (fun h3 => ?_)
    refine rhF.get (pc := 8) (rhR _) dX12_isCompared_8 fl_X12_83 h3 rfl ?_
    refine rhF.iload_n (pc := 11) dX12_isCompared_11 1 rfl ?_
    refine rhF.ck (fun h4 => ?_)
    refine rhF.ck (fun h5 => ?_)
    refine rhF.iald (pc := 12) dX12_isCompared_12 h4 h5 ?_
    refine rhF.iconst (pc := 13) (v := 5) dX12_isCompared_13 (by decide) ?_
    refine rhF.icmp_eq (pc := 14) 28 dX12_isCompared_14 (by decide) (fun h6 => ?_) (fun h6 => ?_)
    · exact (b_X12_isCompared_28 ih) _ _
    · refine rhF.aload_n (pc := 17) dX12_isCompared_17 0 rfl ?_
      refine rhF.get (pc := 18) (rhR _) dX12_isCompared_18 fl_X12_83 h3 rfl ?_
      refine rhF.iload_n (pc := 21) dX12_isCompared_21 1 rfl ?_
      refine rhF.iald (pc := 22) dX12_isCompared_22 h4 h5 ?_
      refine rhF.bipush (pc := 23) (v := 6) dX12_isCompared_23 (by decide) ?_
      refine rhF.icmp_ne (pc := 25) 34 dX12_isCompared_25 (by decide) (fun h8 => ?_) (fun h8 => ?_)
      · exact (b_X12_isCompared_28 ih) _ _
      · exact hk34 _ _
set_option maxHeartbeats 4000000 in
set_option maxRecDepth 100000 in
theorem b_X12_isCompared_34 {E : rhE} {Γ : rhG} {M : rhM} : ∀ (v0 : Nat) (v1 : Int32), rhF E 1 2 yX12_isCompared cX12_isCompared (some .boolean) Γ (rhe0I Γ M) (f_X12_isCompared_34 Γ M v0 v1) 34 [(0, rhR v0), (1, rhI v1)] [] Γ M := by
  intro v0 v1
  rw [f_X12_isCompared_34]
  refine rhF.aload_n (pc := 34) dX12_isCompared_34 0 rfl ?_
  refine rhF.ck (fun h9 => ?_)
  refine rhF.get (pc := 35) (rhR _) dX12_isCompared_35 fl_X12_83 h9 rfl ?_
  refine rhF.iload_n (pc := 38) dX12_isCompared_38 1 rfl ?_
  refine rhF.ck (fun h10 => ?_)
  refine rhF.ck (fun h11 => ?_)
  refine rhF.iald (pc := 39) dX12_isCompared_39 h10 h11 ?_
  refine rhF.iconst (pc := 40) (v := 4) dX12_isCompared_40 (by decide) ?_
  refine rhF.icmp_ne (pc := 41) 48 dX12_isCompared_41 (by decide) (fun h12 => ?_) (fun h12 => ?_)
  · refine rhF.iconst (pc := 44) (v := 1) dX12_isCompared_44 (by decide) ?_
    refine rhF.goto (pc := 45) 49 dX12_isCompared_45 (by decide) ?_
    exact rhF.zret (pc := 49) dX12_isCompared_49 rfl rfl rfl
  · refine rhF.iconst (pc := 48) (v := 0) dX12_isCompared_48 (by decide) ?_
    exact rhF.zret (pc := 49) dX12_isCompared_49 rfl rfl rfl
set_option maxHeartbeats 4000000 in
set_option maxRecDepth 100000 in
theorem b_X12_isCompared {E : rhE} {Γ : rhG} {M : rhM} : ∀ (v0 : Nat), rhF E 1 2 yX12_isCompared cX12_isCompared (some .boolean) Γ (rhe0I Γ M) (f_X12_isCompared Γ M v0) 0 [(0, rhR v0)] [] Γ M := by
  intro v0
  rw [f_X12_isCompared]
  refine rhF.aload_n (pc := 0) dX12_isCompared_0 0 rfl ?_
  refine rhF.ck (fun h1 => ?_)
  refine rhF.get (pc := 1) (rhI _) dX12_isCompared_1 fl_X12_385 h1 rfl ?_
  refine rhF.iconst (pc := 4) (v := 1) dX12_isCompared_4 (by decide) ?_
  refine rhF.isub (pc := 5) dX12_isCompared_5 ?_
  refine rhF.istore_n (pc := 6) (L' := [(1, rhI _), (0, rhR _)]) dX12_isCompared_6 (by decide) rfl ?_
  refine rhF.sub [1, 0] rfl ?_
  exact (b_X12_isCompared_7 (b_X12_isCompared_34) rhFU) _ _
theorem c_X12_isCompared (E : rhE) (Γ : rhG) (M : rhM) (v0 : Nat) : ∀ a, f_X12_isCompared Γ M v0 = some a → rhC E 1 yX12_isCompared cX12_isCompared 2 (some .boolean) [rhR v0] Γ M ((rhe0I Γ M) a) := rhF.met (by decide +kernel) (Nat.le_of_ble_eq_true rfl) (b_X12_isCompared v0)
def f_X12_pushE (Γ : rhG) (M : rhM) (v0 : Nat) (v1 : Int32) (v2 : Int32) : Option (rhM) :=
  rhck (Γ.2.2.1 v0 = 13) <|
  rhck (Γ.2.2.1 (M.2.2 v0 31) = 15) <|
  rhck (0 ≤ (M.1 v0 38).toInt ∧ (M.1 v0 38).toInt < (Γ.2.2.2 (M.2.2 v0 31) : Nat)) <|
  let M4 := rhsi M (M.2.2 v0 31) (M.1 v0 38 : Int32).toNatClampNeg v1
  rhck (Γ.2.2.1 (M.2.2 v0 32) = 15) <|
  rhck (0 ≤ (M4.1 v0 38).toInt ∧ (M4.1 v0 38).toInt < (Γ.2.2.2 (M.2.2 v0 32) : Nat)) <|
  let M7 := rhsi M4 (M.2.2 v0 32) (M4.1 v0 38 : Int32).toNatClampNeg v2
  let M8 := rhsi M7 v0 38 ((M7.1 v0 38) + 1)
  some M8
set_option maxHeartbeats 4000000 in
set_option maxRecDepth 100000 in
theorem b_X12_pushE {E : rhE} {Γ : rhG} : ∀ (M : rhM) (v0 : Nat) (v1 : Int32) (v2 : Int32), rhF E 1 3 yX12_pushE cX12_pushE none Γ (rhe1U Γ) (f_X12_pushE Γ M v0 v1 v2) 0 [(0, rhR v0), (1, rhI v1), (2, rhI v2)] [] Γ M := by
  intro M v0 v1 v2
  rw [f_X12_pushE]
  refine rhF.aload_n (pc := 0) dX12_pushE_0 0 rfl ?_
  refine rhF.ck (fun h1 => ?_)
  refine rhF.get (pc := 1) (rhR _) dX12_pushE_1 fl_X12_83 h1 rfl ?_
  refine rhF.aload_n (pc := 4) dX12_pushE_4 0 rfl ?_
  refine rhF.get (pc := 5) (rhI _) dX12_pushE_5 fl_X12_385 h1 rfl ?_
  refine rhF.iload_n (pc := 8) dX12_pushE_8 1 rfl ?_
  refine rhF.ck (fun h2 => ?_)
  refine rhF.ck (fun h3 => ?_)
  refine rhF.iast (pc := 9) dX12_pushE_9 h2 h3 ?_
  refine rhF.aload_n (pc := 10) dX12_pushE_10 0 rfl ?_
  refine rhF.get (pc := 11) (rhR _) dX12_pushE_11 fl_X12_86 h1 rfl ?_
  refine rhF.aload_n (pc := 14) dX12_pushE_14 0 rfl ?_
  refine rhF.get (pc := 15) (rhI _) dX12_pushE_15 fl_X12_385 h1 rfl ?_
  refine rhF.iload_n (pc := 18) dX12_pushE_18 2 rfl ?_
  refine rhF.ck (fun h5 => ?_)
  refine rhF.ck (fun h6 => ?_)
  refine rhF.iast (pc := 19) dX12_pushE_19 h5 h6 ?_
  refine rhF.aload_n (pc := 20) dX12_pushE_20 0 rfl ?_
  refine rhF.dupr (pc := 21) dX12_pushE_21 ?_
  refine rhF.get (pc := 22) (rhI _) dX12_pushE_22 fl_X12_385 h1 rfl ?_
  refine rhF.iconst (pc := 25) (v := 1) dX12_pushE_25 (by decide) ?_
  refine rhF.iadd (pc := 26) dX12_pushE_26 ?_
  refine rhF.puti (pc := 27) dX12_pushE_27 fl_X12_385 h1 (fun q hq => by cases hq; exact Or.inl rfl) ⟨rfl, rfl⟩ (fun _ => rfl) ?_
  exact rhF.vret (pc := 30) dX12_pushE_30 rfl rfl
theorem c_X12_pushE (E : rhE) (Γ : rhG) (M : rhM) (v0 : Nat) (v1 : Int32) (v2 : Int32) : ∀ a, f_X12_pushE Γ M v0 v1 v2 = some a → rhC E 1 yX12_pushE cX12_pushE 3 none [rhR v0, rhI v1, rhI v2] Γ M ((rhe1U Γ) a) := rhF.met (by decide +kernel) (Nat.le_of_ble_eq_true rfl) (b_X12_pushE M v0 v1 v2)
def f_X12_stands (Γ : rhG) (M : rhM) (v0 : Nat) (v1 : Int32) : Option (Int32) :=
  rhck (Γ.2.2.1 v0 = 13) <|
  if (M.1 v0 8) = 5 then
    ((f_X12_sign Γ M v0 (M.1 v0 6)).bind fun r3 =>
    if r3 = v1 then
      (some 1)
    else
      some 0)
  else
    some 0
set_option maxHeartbeats 4000000 in
set_option maxRecDepth 100000 in
theorem b_X12_stands {E : rhE} {Γ : rhG} {M : rhM} : ∀ (v0 : Nat) (v1 : Int32), rhF E 5 2 yX12_stands cX12_stands (some .boolean) Γ (rhe0I Γ M) (f_X12_stands Γ M v0 v1) 0 [(0, rhR v0), (1, rhI v1)] [] Γ M := by
  intro v0 v1
  rw [f_X12_stands]
  refine rhF.aload_n (pc := 0) dX12_stands_0 0 rfl ?_
  refine rhF.ck (fun h1 => ?_)
  refine rhF.get (pc := 1) (rhI _) dX12_stands_1 fl_X12_266 h1 rfl ?_
  refine rhF.iconst (pc := 4) (v := 5) dX12_stands_4 (by decide) ?_
  refine rhF.icmp_ne (pc := 5) 24 dX12_stands_5 (by decide) (fun h2 => ?_) (fun h2 => ?_)
  · refine rhF.aload_n (pc := 8) dX12_stands_8 0 rfl ?_
    refine rhF.aload_n (pc := 9) dX12_stands_9 0 rfl ?_
    refine rhF.get (pc := 10) (rhI _) dX12_stands_10 fl_X12_259 h1 rfl ?_
    refine rhF.callV (pc := 13) (ci := 12) (embc := rhe0I _ _) [rhI _] dX12_stands_13 ml_X12_262 mv_X12_sign ⟨_, rfl, rfl⟩ h1 (c_X12_sign _ _ _ _ _) (by decide) (by decide) rfl (Nat.le_of_ble_eq_true rfl) (fun r3 _ => ?_)
    refine rhF.iload_n (pc := 16) dX12_stands_16 1 rfl ?_
    refine rhF.icmp_ne (pc := 17) 24 dX12_stands_17 (by decide) (fun h4 => ?_) (fun h4 => ?_)
    · refine rhF.iconst (pc := 20) (v := 1) dX12_stands_20 (by decide) ?_
      refine rhF.goto (pc := 21) 25 dX12_stands_21 (by decide) ?_
      exact rhF.zret (pc := 25) dX12_stands_25 rfl rfl rfl
    · refine rhF.iconst (pc := 24) (v := 0) dX12_stands_24 (by decide) ?_
      exact rhF.zret (pc := 25) dX12_stands_25 rfl rfl rfl
  · refine rhF.iconst (pc := 24) (v := 0) dX12_stands_24 (by decide) ?_
    exact rhF.zret (pc := 25) dX12_stands_25 rfl rfl rfl
theorem c_X12_stands (E : rhE) (Γ : rhG) (M : rhM) (v0 : Nat) (v1 : Int32) : ∀ a, f_X12_stands Γ M v0 v1 = some a → rhC E 5 yX12_stands cX12_stands 2 (some .boolean) [rhR v0, rhI v1] Γ M ((rhe0I Γ M) a) := rhF.met (by decide +kernel) (Nat.le_of_ble_eq_true rfl) (b_X12_stands v0 v1)
def f_X12_rankHere (Γ : rhG) (M : rhM) (v0 : Nat) : Option (Int32) :=
  rhck (Γ.2.2.1 v0 = 13) <|
  (f_X12_isWord Γ M v0 ((6385252 : Int64))).bind fun r2 =>
  if r2 = 0 then
    ((f_X12_isWord Γ M v0 ((28530 : Int64))).bind fun r4 =>
    if r4 = 0 then
      ((f_X12_stands Γ M v0 (60 : Int32)).bind fun r6 =>
      if r6 = 0 then
        ((f_X12_stands Γ M v0 (62 : Int32)).bind fun r8 =>
        if r8 = 0 then
          ((f_X12_stands Γ M v0 (61 : Int32)).bind fun r10 =>
          if r10 = 0 then
            ((f_X12_stands Γ M v0 (43 : Int32)).bind fun r12 =>
            if r12 = 0 then
              ((f_X12_stands Γ M v0 (45 : Int32)).bind fun r14 =>
              if r14 = 0 then
                ((f_X12_stands Γ M v0 (42 : Int32)).bind fun r16 =>
                if r16 = 0 then
                  ((f_X12_stands Γ M v0 (47 : Int32)).bind fun r18 =>
                  if r18 = 0 then
                    (some 0)
                  else
                    some 6)
                else
                  some 6)
              else
                some 5)
            else
              some 5)
          else
            some 4)
        else
          some 4)
      else
        some 4)
    else
      some 1)
  else
    some 2
set_option maxHeartbeats 4000000 in
set_option maxRecDepth 100000 in
theorem b_X12_rankHere {E : rhE} {Γ : rhG} {M : rhM} : ∀ (v0 : Nat), rhF E 6 1 yX12_rankHere cX12_rankHere (some .int) Γ (rhe0I Γ M) (f_X12_rankHere Γ M v0) 0 [(0, rhR v0)] [] Γ M := by
  intro v0
  rw [f_X12_rankHere]
  refine rhF.aload_n (pc := 0) dX12_rankHere_0 0 rfl ?_
  refine rhF.ldc2 (pc := 1) dX12_rankHere_1 k_X12_250 ?_
  refine rhF.ck (fun h1 => ?_)
  refine rhF.callV (pc := 4) (ci := 12) (embc := rhe0I _ _) [rhJ _] dX12_rankHere_4 ml_X12_304 mv_X12_isWord ⟨_, rfl, rfl⟩ h1 (c_X12_isWord _ _ _ _ _) (by decide) (by decide) rfl (Nat.le_of_ble_eq_true rfl) (fun r2 _ => ?_)
  refine rhF.if_eq (pc := 7) 12 dX12_rankHere_7 (by decide) (fun h3 => ?_) (fun h3 => ?_)
  · refine rhF.aload_n (pc := 12) dX12_rankHere_12 0 rfl ?_
    refine rhF.ldc2 (pc := 13) dX12_rankHere_13 k_X12_252 ?_
    refine rhF.callV (pc := 16) (ci := 12) (embc := rhe0I _ _) [rhJ _] dX12_rankHere_16 ml_X12_304 mv_X12_isWord ⟨_, rfl, rfl⟩ h1 (c_X12_isWord _ _ _ _ _) (by decide) (by decide) rfl (Nat.le_of_ble_eq_true rfl) (fun r4 _ => ?_)
    refine rhF.if_eq (pc := 19) 24 dX12_rankHere_19 (by decide) (fun h5 => ?_) (fun h5 => ?_)
    · refine rhF.aload_n (pc := 24) dX12_rankHere_24 0 rfl ?_
      refine rhF.bipush (pc := 25) (v := 60) dX12_rankHere_25 (by decide) ?_
      refine rhF.callV (pc := 27) (ci := 12) (embc := rhe0I _ _) [rhI _] dX12_rankHere_27 ml_X12_315 mv_X12_stands ⟨_, rfl, rfl⟩ h1 (c_X12_stands _ _ _ _ _) (by decide) (by decide) rfl (Nat.le_of_ble_eq_true rfl) (fun r6 _ => ?_)
      refine rhF.if_ne (pc := 30) 51 dX12_rankHere_30 (by decide) (fun h7 => ?_) (fun h7 => ?_)
      · refine rhF.aload_n (pc := 33) dX12_rankHere_33 0 rfl ?_
        refine rhF.bipush (pc := 34) (v := 62) dX12_rankHere_34 (by decide) ?_
        refine rhF.callV (pc := 36) (ci := 12) (embc := rhe0I _ _) [rhI _] dX12_rankHere_36 ml_X12_315 mv_X12_stands ⟨_, rfl, rfl⟩ h1 (c_X12_stands _ _ _ _ _) (by decide) (by decide) rfl (Nat.le_of_ble_eq_true rfl) (fun r8 _ => ?_)
        refine rhF.if_ne (pc := 39) 51 dX12_rankHere_39 (by decide) (fun h9 => ?_) (fun h9 => ?_)
        · refine rhF.aload_n (pc := 42) dX12_rankHere_42 0 rfl ?_
          refine rhF.bipush (pc := 43) (v := 61) dX12_rankHere_43 (by decide) ?_
          refine rhF.callV (pc := 45) (ci := 12) (embc := rhe0I _ _) [rhI _] dX12_rankHere_45 ml_X12_315 mv_X12_stands ⟨_, rfl, rfl⟩ h1 (c_X12_stands _ _ _ _ _) (by decide) (by decide) rfl (Nat.le_of_ble_eq_true rfl) (fun r10 _ => ?_)
          refine rhF.if_eq (pc := 48) 53 dX12_rankHere_48 (by decide) (fun h11 => ?_) (fun h11 => ?_)
          · refine rhF.aload_n (pc := 53) dX12_rankHere_53 0 rfl ?_
            refine rhF.bipush (pc := 54) (v := 43) dX12_rankHere_54 (by decide) ?_
            refine rhF.callV (pc := 56) (ci := 12) (embc := rhe0I _ _) [rhI _] dX12_rankHere_56 ml_X12_315 mv_X12_stands ⟨_, rfl, rfl⟩ h1 (c_X12_stands _ _ _ _ _) (by decide) (by decide) rfl (Nat.le_of_ble_eq_true rfl) (fun r12 _ => ?_)
            refine rhF.if_ne (pc := 59) 71 dX12_rankHere_59 (by decide) (fun h13 => ?_) (fun h13 => ?_)
            · refine rhF.aload_n (pc := 62) dX12_rankHere_62 0 rfl ?_
              refine rhF.bipush (pc := 63) (v := 45) dX12_rankHere_63 (by decide) ?_
              refine rhF.callV (pc := 65) (ci := 12) (embc := rhe0I _ _) [rhI _] dX12_rankHere_65 ml_X12_315 mv_X12_stands ⟨_, rfl, rfl⟩ h1 (c_X12_stands _ _ _ _ _) (by decide) (by decide) rfl (Nat.le_of_ble_eq_true rfl) (fun r14 _ => ?_)
              refine rhF.if_eq (pc := 68) 73 dX12_rankHere_68 (by decide) (fun h15 => ?_) (fun h15 => ?_)
              · refine rhF.aload_n (pc := 73) dX12_rankHere_73 0 rfl ?_
                refine rhF.bipush (pc := 74) (v := 42) dX12_rankHere_74 (by decide) ?_
                refine rhF.callV (pc := 76) (ci := 12) (embc := rhe0I _ _) [rhI _] dX12_rankHere_76 ml_X12_315 mv_X12_stands ⟨_, rfl, rfl⟩ h1 (c_X12_stands _ _ _ _ _) (by decide) (by decide) rfl (Nat.le_of_ble_eq_true rfl) (fun r16 _ => ?_)
                refine rhF.if_ne (pc := 79) 91 dX12_rankHere_79 (by decide) (fun h17 => ?_) (fun h17 => ?_)
                · refine rhF.aload_n (pc := 82) dX12_rankHere_82 0 rfl ?_
                  refine rhF.bipush (pc := 83) (v := 47) dX12_rankHere_83 (by decide) ?_
                  refine rhF.callV (pc := 85) (ci := 12) (embc := rhe0I _ _) [rhI _] dX12_rankHere_85 ml_X12_315 mv_X12_stands ⟨_, rfl, rfl⟩ h1 (c_X12_stands _ _ _ _ _) (by decide) (by decide) rfl (Nat.le_of_ble_eq_true rfl) (fun r18 _ => ?_)
                  refine rhF.if_eq (pc := 88) 96 dX12_rankHere_88 (by decide) (fun h19 => ?_) (fun h19 => ?_)
                  · refine rhF.iconst (pc := 96) (v := 0) dX12_rankHere_96 (by decide) ?_
                    exact rhF.zret (pc := 97) dX12_rankHere_97 rfl rfl rfl
                  · refine rhF.bipush (pc := 91) (v := 6) dX12_rankHere_91 (by decide) ?_
                    refine rhF.goto (pc := 93) 97 dX12_rankHere_93 (by decide) ?_
                    exact rhF.zret (pc := 97) dX12_rankHere_97 rfl rfl rfl
                · refine rhF.bipush (pc := 91) (v := 6) dX12_rankHere_91 (by decide) ?_
                  refine rhF.goto (pc := 93) 97 dX12_rankHere_93 (by decide) ?_
                  exact rhF.zret (pc := 97) dX12_rankHere_97 rfl rfl rfl
              · refine rhF.iconst (pc := 71) (v := 5) dX12_rankHere_71 (by decide) ?_
                exact rhF.zret (pc := 72) dX12_rankHere_72 rfl rfl rfl
            · refine rhF.iconst (pc := 71) (v := 5) dX12_rankHere_71 (by decide) ?_
              exact rhF.zret (pc := 72) dX12_rankHere_72 rfl rfl rfl
          · refine rhF.iconst (pc := 51) (v := 4) dX12_rankHere_51 (by decide) ?_
            exact rhF.zret (pc := 52) dX12_rankHere_52 rfl rfl rfl
        · refine rhF.iconst (pc := 51) (v := 4) dX12_rankHere_51 (by decide) ?_
          exact rhF.zret (pc := 52) dX12_rankHere_52 rfl rfl rfl
      · refine rhF.iconst (pc := 51) (v := 4) dX12_rankHere_51 (by decide) ?_
        exact rhF.zret (pc := 52) dX12_rankHere_52 rfl rfl rfl
    · refine rhF.iconst (pc := 22) (v := 1) dX12_rankHere_22 (by decide) ?_
      exact rhF.zret (pc := 23) dX12_rankHere_23 rfl rfl rfl
  · refine rhF.iconst (pc := 10) (v := 2) dX12_rankHere_10 (by decide) ?_
    exact rhF.zret (pc := 11) dX12_rankHere_11 rfl rfl rfl
theorem c_X12_rankHere (E : rhE) (Γ : rhG) (M : rhM) (v0 : Nat) : ∀ a, f_X12_rankHere Γ M v0 = some a → rhC E 6 yX12_rankHere cX12_rankHere 1 (some .int) [rhR v0] Γ M ((rhe0I Γ M) a) := rhF.met (by decide +kernel) (Nat.le_of_ble_eq_true rfl) (b_X12_rankHere v0)
def f_X12_behindUnit_87 (k23 : rhM → Nat → Int32 → Option (Int32 × rhM)) (Γ : rhG) (M : rhM) (v0 : Nat) (v1 : Int32) : Option (Int32 × rhM) :=
  rhck (Γ.2.2.1 v0 = 13) <|
  rhck (Γ.2.2.1 (M.2.2 v0 32) = 15) <|
  rhck (0 ≤ (M.1 v0 38).toInt ∧ (M.1 v0 38).toInt < (Γ.2.2.2 (M.2.2 v0 32) : Nat)) <|
  (f_X12_emit Γ M v0 (M.1 (M.2.2 v0 32) (M.1 v0 38).toNatClampNeg) (0 : Int32)).bind fun r18 =>
  k23 r18 v0 v1
def f_X12_behindUnit_23 (k104 : rhM → Nat → Int32 → Option (Int32 × rhM)) (Γ : rhG) : Nat → rhM → Nat → Int32 → Option (Int32 × rhM)
  | 0, _, _, _ => none
  | n + 1, M, v0, v1 =>
    rhck (Γ.2.2.1 v0 = 13) <|
    rhck (Γ.2.2.1 (M.2.2 v0 31) = 15) <|
    rhck (0 ≤ ((M.1 v0 38) - 1).toInt ∧ ((M.1 v0 38) - 1).toInt < (Γ.2.2.2 (M.2.2 v0 31) : Nat)) <|
    if 6 < (M.1 (M.2.2 v0 31) ((M.1 v0 38) - 1).toNatClampNeg) then
      (k104 M v0 v1)
    else
      if (M.1 (M.2.2 v0 31) ((M.1 v0 38) - 1).toNatClampNeg) < v1 then
        (k104 M v0 v1)
      else
        let M11 := rhsi M v0 38 ((M.1 v0 38) - 1)
        rhck (0 ≤ (M11.1 v0 38).toInt ∧ (M11.1 v0 38).toInt < (Γ.2.2.2 (M.2.2 v0 31) : Nat)) <|
        if (M11.1 (M.2.2 v0 31) (M11.1 v0 38).toNatClampNeg) = 3 then
          (let M14 := rhsi M11 v0 37 ((M11.1 v0 37) - 1)
          f_X12_behindUnit_87 (f_X12_behindUnit_23 k104 Γ n) Γ M14 v0 v1)
        else
          f_X12_behindUnit_87 (f_X12_behindUnit_23 k104 Γ n) Γ M11 v0 v1
def f_X12_behindUnit_138 (Γ : rhG) (M : rhM) (v0 : Nat) (s0 : Nat) (s1 : Int32) (s2 : Int32) : Option (Int32 × rhM) :=
  rhck (Γ.2.2.1 s0 = 13) <|
  (f_X12_pushE Γ M s0 s1 s2).bind fun r22 =>
  rhck (Γ.2.2.1 v0 = 13) <|
  (f_X12_goOn Γ r22 v0).bind fun r24 =>
  some ((1, r24))
def f_X12_behindUnit_104 (Γ : rhG) (M : rhM) (v0 : Nat) (v1 : Int32) : Option (Int32 × rhM) :=
  if 0 < v1 then
    (if v1 = 2 then
      (f_X12_behindUnit_138 Γ M v0 v0 v1 38)
    else
      if v1 = 1 then
        (f_X12_behindUnit_138 Γ M v0 v0 v1 124)
      else
        rhck (Γ.2.2.1 v0 = 13) <|
        (f_X12_sign Γ M v0 (M.1 v0 6)).bind fun r27 =>
        f_X12_behindUnit_138 Γ M v0 v0 v1 r27)
  else
    rhck (Γ.2.2.1 v0 = 13) <|
    let M29 := rhsi M v0 38 ((M.1 v0 38) - 1)
    rhck (Γ.2.2.1 (M.2.2 v0 31) = 15) <|
    rhck (0 ≤ (M29.1 v0 38).toInt ∧ (M29.1 v0 38).toInt < (Γ.2.2.2 (M.2.2 v0 31) : Nat)) <|
    if (M29.1 (M.2.2 v0 31) (M29.1 v0 38).toNatClampNeg) = 7 then
      (let M33 := rhsi M29 v0 37 ((M29.1 v0 37) - 1)
      (f_X12_stands Γ M33 v0 (41 : Int32)).bind fun r34 =>
      (f_X12_must Γ M33 v0 r34).bind fun r35 =>
      some ((0, r35)))
    else
      some ((0, M29))
def f_X12_behindUnit (Γ : rhG) (M : rhM) (v0 : Nat) : Option (Int32 × rhM) :=
  rhck (Γ.2.2.1 v0 = 13) <|
  (f_X12_rankHere Γ M v0).bind fun r2 =>
  if r2 = 4 then
    ((f_X12_isCompared Γ M v0).bind fun r4 =>
    if r4 = 0 then
      (f_X12_behindUnit_23 (f_X12_behindUnit_104 Γ) Γ rhFU M v0 r2)
    else
      (f_X12_misplaced Γ M v0).bind fun r36 =>
      some ((1, r36)))
  else
    f_X12_behindUnit_23 (f_X12_behindUnit_104 Γ) Γ rhFU M v0 r2
set_option maxHeartbeats 4000000 in
set_option maxRecDepth 100000 in
theorem b_X12_behindUnit_87 {E : rhE} {Γ : rhG} {k23 : rhM → Nat → Int32 → Option (Int32 × rhM)} (hk23 : ∀ (M : rhM) (v0 : Nat) (v1 : Int32), rhF E 7 2 yX12_behindUnit cX12_behindUnit (some .boolean) Γ (rhe1I Γ) (k23 M v0 v1) 23 [(0, rhR v0), (1, rhI v1)] [] Γ M) : ∀ (M : rhM) (v0 : Nat) (v1 : Int32), rhF E 7 2 yX12_behindUnit cX12_behindUnit (some .boolean) Γ (rhe1I Γ) (f_X12_behindUnit_87 k23 Γ M v0 v1) 87 [(0, rhR v0), (1, rhI v1)] [] Γ M := by
  intro M v0 v1
  rw [f_X12_behindUnit_87]
  refine rhF.aload_n (pc := 87) dX12_behindUnit_87 0 rfl ?_
  refine rhF.aload_n (pc := 88) dX12_behindUnit_88 0 rfl ?_
  refine rhF.ck (fun h15 => ?_)
  refine rhF.get (pc := 89) (rhR _) dX12_behindUnit_89 fl_X12_86 h15 rfl ?_
  refine rhF.aload_n (pc := 92) dX12_behindUnit_92 0 rfl ?_
  refine rhF.get (pc := 93) (rhI _) dX12_behindUnit_93 fl_X12_385 h15 rfl ?_
  refine rhF.ck (fun h16 => ?_)
  refine rhF.ck (fun h17 => ?_)
  refine rhF.iald (pc := 96) dX12_behindUnit_96 h16 h17 ?_
  refine rhF.iconst (pc := 97) (v := 0) dX12_behindUnit_97 (by decide) ?_
  refine rhF.callV (pc := 98) (ci := 12) (embc := rhe1U _) [rhI _, rhI _] dX12_behindUnit_98 ml_X12_403 mv_X12_emit ⟨_, rfl, rfl⟩ h15 (c_X12_emit _ _ _ _ _ _) (by decide) (by decide) rfl (Nat.le_of_ble_eq_true rfl) (fun r18 _ => ?_)
  refine rhF.goto (pc := 101) 23 dX12_behindUnit_101 (by decide) ?_
  exact hk23 _ _ _
set_option maxHeartbeats 4000000 in
set_option maxRecDepth 100000 in
theorem b_X12_behindUnit_23 {E : rhE} {Γ : rhG} {k104 : rhM → Nat → Int32 → Option (Int32 × rhM)} (hk104 : ∀ (M : rhM) (v0 : Nat) (v1 : Int32), rhF E 7 2 yX12_behindUnit cX12_behindUnit (some .boolean) Γ (rhe1I Γ) (k104 M v0 v1) 104 [(0, rhR v0), (1, rhI v1)] [] Γ M) : ∀ (n : Nat) (M : rhM) (v0 : Nat) (v1 : Int32), rhF E 7 2 yX12_behindUnit cX12_behindUnit (some .boolean) Γ (rhe1I Γ) (f_X12_behindUnit_23 k104 Γ n M v0 v1) 23 [(0, rhR v0), (1, rhI v1)] [] Γ M := by
  intro n
  induction n with
  | zero => intro M v0 v1; rw [f_X12_behindUnit_23]; exact rhF.nope
  | succ n ih =>
    intro M v0 v1
    rw [f_X12_behindUnit_23]
    refine rhF.aload_n (pc := 23) dX12_behindUnit_23 0 rfl ?_
    refine rhF.ck (fun h6 => ?_)
    refine rhF.get (pc := 24) (rhR _) dX12_behindUnit_24 fl_X12_83 h6 rfl ?_
    refine rhF.aload_n (pc := 27) dX12_behindUnit_27 0 rfl ?_
    refine rhF.get (pc := 28) (rhI _) dX12_behindUnit_28 fl_X12_385 h6 rfl ?_
    refine rhF.iconst (pc := 31) (v := 1) dX12_behindUnit_31 (by decide) ?_
    refine rhF.isub (pc := 32) dX12_behindUnit_32 ?_
    refine rhF.ck (fun h7 => ?_)
    refine rhF.ck (fun h8 => ?_)
    refine rhF.iald (pc := 33) dX12_behindUnit_33 h7 h8 ?_
    refine rhF.bipush (pc := 34) (v := 6) dX12_behindUnit_34 (by decide) ?_
    refine rhF.icmp_gt (pc := 36) 104 dX12_behindUnit_36 (by decide) (fun h9 => ?_) (fun h9 => ?_)
    · exact hk104 _ _ _
    · refine rhF.aload_n (pc := 39) dX12_behindUnit_39 0 rfl ?_
      refine rhF.get (pc := 40) (rhR _) dX12_behindUnit_40 fl_X12_83 h6 rfl ?_
      refine rhF.aload_n (pc := 43) dX12_behindUnit_43 0 rfl ?_
      refine rhF.get (pc := 44) (rhI _) dX12_behindUnit_44 fl_X12_385 h6 rfl ?_
      refine rhF.iconst (pc := 47) (v := 1) dX12_behindUnit_47 (by decide) ?_
      refine rhF.isub (pc := 48) dX12_behindUnit_48 ?_
      refine rhF.iald (pc := 49) dX12_behindUnit_49 h7 h8 ?_
      refine rhF.iload_n (pc := 50) dX12_behindUnit_50 1 rfl ?_
      refine rhF.icmp_lt (pc := 51) 104 dX12_behindUnit_51 (by decide) (fun h10 => ?_) (fun h10 => ?_)
      · exact hk104 _ _ _
      · refine rhF.aload_n (pc := 54) dX12_behindUnit_54 0 rfl ?_
        refine rhF.dupr (pc := 55) dX12_behindUnit_55 ?_
        refine rhF.get (pc := 56) (rhI _) dX12_behindUnit_56 fl_X12_385 h6 rfl ?_
        refine rhF.iconst (pc := 59) (v := 1) dX12_behindUnit_59 (by decide) ?_
        refine rhF.isub (pc := 60) dX12_behindUnit_60 ?_
        refine rhF.puti (pc := 61) dX12_behindUnit_61 fl_X12_385 h6 (fun q hq => by cases hq; exact Or.inl rfl) ⟨rfl, rfl⟩ (fun _ => rfl) ?_
        refine rhF.aload_n (pc := 64) dX12_behindUnit_64 0 rfl ?_
        refine rhF.get (pc := 65) (rhR _) dX12_behindUnit_65 fl_X12_83 h6 rfl ?_
        refine rhF.aload_n (pc := 68) dX12_behindUnit_68 0 rfl ?_
        refine rhF.get (pc := 69) (rhI _) dX12_behindUnit_69 fl_X12_385 h6 rfl ?_
        refine rhF.ck (fun h12 => ?_)
        refine rhF.iald (pc := 72) dX12_behindUnit_72 h7 h12 ?_
        refine rhF.iconst (pc := 73) (v := 3) dX12_behindUnit_73 (by decide) ?_
        refine rhF.icmp_ne (pc := 74) 87 dX12_behindUnit_74 (by decide) (fun h13 => ?_) (fun h13 => ?_)
        · refine rhF.aload_n (pc := 77) dX12_behindUnit_77 0 rfl ?_
          refine rhF.dupr (pc := 78) dX12_behindUnit_78 ?_
          refine rhF.get (pc := 79) (rhI _) dX12_behindUnit_79 fl_X12_388 h6 rfl ?_
          refine rhF.iconst (pc := 82) (v := 1) dX12_behindUnit_82 (by decide) ?_
          refine rhF.isub (pc := 83) dX12_behindUnit_83 ?_
          refine rhF.puti (pc := 84) dX12_behindUnit_84 fl_X12_388 h6 (fun q hq => by cases hq; exact Or.inl rfl) ⟨rfl, rfl⟩ (fun _ => rfl) ?_
          exact (b_X12_behindUnit_87 ih) _ _ _
        · exact (b_X12_behindUnit_87 ih) _ _ _
set_option maxHeartbeats 4000000 in
set_option maxRecDepth 100000 in
theorem b_X12_behindUnit_138 {E : rhE} {Γ : rhG} : ∀ (M : rhM) (v0 : Nat) (s0 : Nat) (s1 : Int32) (s2 : Int32), rhF E 7 2 yX12_behindUnit cX12_behindUnit (some .boolean) Γ (rhe1I Γ) (f_X12_behindUnit_138 Γ M v0 s0 s1 s2) 138 [(0, rhR v0)] [rhI s2, rhI s1, rhR s0] Γ M := by
  intro M v0 s0 s1 s2
  rw [f_X12_behindUnit_138]
  refine rhF.ck (fun h21 => ?_)
  refine rhF.callV (pc := 138) (ci := 12) (embc := rhe1U _) [rhI _, rhI _] dX12_behindUnit_138 ml_X12_391 mv_X12_pushE ⟨_, rfl, rfl⟩ h21 (c_X12_pushE _ _ _ _ _ _) (by decide) (by decide) rfl (Nat.le_of_ble_eq_true rfl) (fun r22 _ => ?_)
  refine rhF.aload_n (pc := 141) dX12_behindUnit_141 0 rfl ?_
  refine rhF.ck (fun h23 => ?_)
  refine rhF.callV (pc := 142) (ci := 12) (embc := rhe1U _) [] dX12_behindUnit_142 ml_X12_298 mv_X12_goOn ⟨_, rfl, rfl⟩ h23 (c_X12_goOn _ _ _ _) (by decide) (by decide) rfl (Nat.le_of_ble_eq_true rfl) (fun r24 _ => ?_)
  refine rhF.iconst (pc := 145) (v := 1) dX12_behindUnit_145 (by decide) ?_
  exact rhF.zret (pc := 146) dX12_behindUnit_146 rfl rfl rfl
set_option maxHeartbeats 4000000 in
set_option maxRecDepth 100000 in
theorem b_X12_behindUnit_104 {E : rhE} {Γ : rhG} : ∀ (M : rhM) (v0 : Nat) (v1 : Int32), rhF E 7 2 yX12_behindUnit cX12_behindUnit (some .boolean) Γ (rhe1I Γ) (f_X12_behindUnit_104 Γ M v0 v1) 104 [(0, rhR v0), (1, rhI v1)] [] Γ M := by
  intro M v0 v1
  rw [f_X12_behindUnit_104]
  refine rhF.iload_n (pc := 104) dX12_behindUnit_104 1 rfl ?_
  refine rhF.if_le (pc := 105) 147 dX12_behindUnit_105 (by decide) (fun h19 => ?_) (fun h19 => ?_)
  · refine rhF.aload_n (pc := 108) dX12_behindUnit_108 0 rfl ?_
    refine rhF.iload_n (pc := 109) dX12_behindUnit_109 1 rfl ?_
    refine rhF.iload_n (pc := 110) dX12_behindUnit_110 1 rfl ?_
    refine rhF.iconst (pc := 111) (v := 2) dX12_behindUnit_111 (by decide) ?_
    refine rhF.icmp_ne (pc := 112) 120 dX12_behindUnit_112 (by decide) (fun h20 => ?_) (fun h20 => ?_)
    · refine rhF.bipush (pc := 115) (v := 38) dX12_behindUnit_115 (by decide) ?_
      refine rhF.goto (pc := 117) 138 dX12_behindUnit_117 (by decide) ?_
      refine rhF.sub [0] rfl ?_
      exact (b_X12_behindUnit_138) _ _ _ _ _
    · refine rhF.iload_n (pc := 120) dX12_behindUnit_120 1 rfl ?_
      refine rhF.iconst (pc := 121) (v := 1) dX12_behindUnit_121 (by decide) ?_
      refine rhF.icmp_ne (pc := 122) 130 dX12_behindUnit_122 (by decide) (fun h25 => ?_) (fun h25 => ?_)
      · refine rhF.bipush (pc := 125) (v := 124) dX12_behindUnit_125 (by decide) ?_
        refine rhF.goto (pc := 127) 138 dX12_behindUnit_127 (by decide) ?_
        refine rhF.sub [0] rfl ?_
        exact (b_X12_behindUnit_138) _ _ _ _ _
      · refine rhF.aload_n (pc := 130) dX12_behindUnit_130 0 rfl ?_
        refine rhF.aload_n (pc := 131) dX12_behindUnit_131 0 rfl ?_
        refine rhF.ck (fun h26 => ?_)
        refine rhF.get (pc := 132) (rhI _) dX12_behindUnit_132 fl_X12_259 h26 rfl ?_
        refine rhF.callV (pc := 135) (ci := 12) (embc := rhe0I _ _) [rhI _] dX12_behindUnit_135 ml_X12_262 mv_X12_sign ⟨_, rfl, rfl⟩ h26 (c_X12_sign _ _ _ _ _) (by decide) (by decide) rfl (Nat.le_of_ble_eq_true rfl) (fun r27 _ => ?_)
        refine rhF.sub [0] rfl ?_
        exact (b_X12_behindUnit_138) _ _ _ _ _
  · refine rhF.aload_n (pc := 147) dX12_behindUnit_147 0 rfl ?_
    refine rhF.dupr (pc := 148) dX12_behindUnit_148 ?_
    refine rhF.ck (fun h28 => ?_)
    refine rhF.get (pc := 149) (rhI _) dX12_behindUnit_149 fl_X12_385 h28 rfl ?_
    refine rhF.iconst (pc := 152) (v := 1) dX12_behindUnit_152 (by decide) ?_
    refine rhF.isub (pc := 153) dX12_behindUnit_153 ?_
    refine rhF.puti (pc := 154) dX12_behindUnit_154 fl_X12_385 h28 (fun q hq => by cases hq; exact Or.inl rfl) ⟨rfl, rfl⟩ (fun _ => rfl) ?_
    refine rhF.aload_n (pc := 157) dX12_behindUnit_157 0 rfl ?_
    refine rhF.get (pc := 158) (rhR _) dX12_behindUnit_158 fl_X12_83 h28 rfl ?_
    refine rhF.aload_n (pc := 161) dX12_behindUnit_161 0 rfl ?_
    refine rhF.get (pc := 162) (rhI _) dX12_behindUnit_162 fl_X12_385 h28 rfl ?_
    refine rhF.ck (fun h30 => ?_)
    refine rhF.ck (fun h31 => ?_)
    refine rhF.iald (pc := 165) dX12_behindUnit_165 h30 h31 ?_
    refine rhF.bipush (pc := 166) (v := 7) dX12_behindUnit_166 (by decide) ?_
    refine rhF.icmp_ne (pc := 168) 191 dX12_behindUnit_168 (by decide) (fun h32 => ?_) (fun h32 => ?_)
    · refine rhF.aload_n (pc := 171) dX12_behindUnit_171 0 rfl ?_
      refine rhF.dupr (pc := 172) dX12_behindUnit_172 ?_
      refine rhF.get (pc := 173) (rhI _) dX12_behindUnit_173 fl_X12_388 h28 rfl ?_
      refine rhF.iconst (pc := 176) (v := 1) dX12_behindUnit_176 (by decide) ?_
      refine rhF.isub (pc := 177) dX12_behindUnit_177 ?_
      refine rhF.puti (pc := 178) dX12_behindUnit_178 fl_X12_388 h28 (fun q hq => by cases hq; exact Or.inl rfl) ⟨rfl, rfl⟩ (fun _ => rfl) ?_
      refine rhF.aload_n (pc := 181) dX12_behindUnit_181 0 rfl ?_
      refine rhF.aload_n (pc := 182) dX12_behindUnit_182 0 rfl ?_
      refine rhF.bipush (pc := 183) (v := 41) dX12_behindUnit_183 (by decide) ?_
      refine rhF.callV (pc := 185) (ci := 12) (embc := rhe0I _ _) [rhI _] dX12_behindUnit_185 ml_X12_315 mv_X12_stands ⟨_, rfl, rfl⟩ h28 (c_X12_stands _ _ _ _ _) (by decide) (by decide) rfl (Nat.le_of_ble_eq_true rfl) (fun r34 _ => ?_)
      refine rhF.callV (pc := 188) (ci := 12) (embc := rhe1U _) [rhI _] dX12_behindUnit_188 ml_X12_307 mv_X12_must ⟨_, rfl, rfl⟩ h28 (c_X12_must _ _ _ _ _) (by decide) (by decide) rfl (Nat.le_of_ble_eq_true rfl) (fun r35 _ => ?_)
      refine rhF.iconst (pc := 191) (v := 0) dX12_behindUnit_191 (by decide) ?_
      exact rhF.zret (pc := 192) dX12_behindUnit_192 rfl rfl rfl
    · refine rhF.iconst (pc := 191) (v := 0) dX12_behindUnit_191 (by decide) ?_
      exact rhF.zret (pc := 192) dX12_behindUnit_192 rfl rfl rfl
set_option maxHeartbeats 4000000 in
set_option maxRecDepth 100000 in
theorem b_X12_behindUnit {E : rhE} {Γ : rhG} : ∀ (M : rhM) (v0 : Nat), rhF E 7 2 yX12_behindUnit cX12_behindUnit (some .boolean) Γ (rhe1I Γ) (f_X12_behindUnit Γ M v0) 0 [(0, rhR v0)] [] Γ M := by
  intro M v0
  rw [f_X12_behindUnit]
  refine rhF.aload_n (pc := 0) dX12_behindUnit_0 0 rfl ?_
  refine rhF.ck (fun h1 => ?_)
  refine rhF.callV (pc := 1) (ci := 12) (embc := rhe0I _ _) [] dX12_behindUnit_1 ml_X12_406 mv_X12_rankHere ⟨_, rfl, rfl⟩ h1 (c_X12_rankHere _ _ _ _) (by decide) (by decide) rfl (Nat.le_of_ble_eq_true rfl) (fun r2 _ => ?_)
  refine rhF.istore_n (pc := 4) (L' := [(1, rhI _), (0, rhR _)]) dX12_behindUnit_4 (by decide) rfl ?_
  refine rhF.iload_n (pc := 5) dX12_behindUnit_5 0 rfl ?_
  refine rhF.iconst (pc := 6) (v := 4) dX12_behindUnit_6 (by decide) ?_
  refine rhF.icmp_ne (pc := 7) 23 dX12_behindUnit_7 (by decide) (fun h3 => ?_) (fun h3 => ?_)
  · refine rhF.aload_n (pc := 10) dX12_behindUnit_10 1 rfl ?_
    refine rhF.callV (pc := 11) (ci := 12) (embc := rhe0I _ _) [] dX12_behindUnit_11 ml_X12_409 mv_X12_isCompared ⟨_, rfl, rfl⟩ h1 (c_X12_isCompared _ _ _ _) (by decide) (by decide) rfl (Nat.le_of_ble_eq_true rfl) (fun r4 _ => ?_)
    refine rhF.if_eq (pc := 14) 23 dX12_behindUnit_14 (by decide) (fun h5 => ?_) (fun h5 => ?_)
    · refine rhF.sub [1, 0] rfl ?_
      exact (b_X12_behindUnit_23 (b_X12_behindUnit_104) rhFU) _ _ _
    · refine rhF.aload_n (pc := 17) dX12_behindUnit_17 1 rfl ?_
      refine rhF.callV (pc := 18) (ci := 12) (embc := rhe1U _) [] dX12_behindUnit_18 ml_X12_301 mv_X12_misplaced ⟨_, rfl, rfl⟩ h1 (c_X12_misplaced _ _ _ _) (by decide) (by decide) rfl (Nat.le_of_ble_eq_true rfl) (fun r36 _ => ?_)
      refine rhF.iconst (pc := 21) (v := 1) dX12_behindUnit_21 (by decide) ?_
      exact rhF.zret (pc := 22) dX12_behindUnit_22 rfl rfl rfl
  · refine rhF.sub [1, 0] rfl ?_
    exact (b_X12_behindUnit_23 (b_X12_behindUnit_104) rhFU) _ _ _
theorem c_X12_behindUnit (E : rhE) (Γ : rhG) (M : rhM) (v0 : Nat) : ∀ a, f_X12_behindUnit Γ M v0 = some a → rhC E 7 yX12_behindUnit cX12_behindUnit 2 (some .boolean) [rhR v0] Γ M ((rhe1I Γ) a) := rhF.met (by decide +kernel) (Nat.le_of_ble_eq_true rfl) (b_X12_behindUnit M v0)
def f_X12_isHouse (Γ : rhG) (M : rhM) (v0 : Nat) (v1 : Int32) : Option (Int32) :=
  rhck (Γ.2.2.1 v0 = 13) <|
  (f_X12_houseMany Γ M v0).bind fun r2 =>
  (f_X12_isIn Γ M v1 (0 : Int32) (r2 - 1)).bind fun r3 =>
  rhck (r3 = 0 ∨ r3 = 1) <|
  some r3
set_option maxHeartbeats 4000000 in
set_option maxRecDepth 100000 in
theorem b_X12_isHouse {E : rhE} {Γ : rhG} {M : rhM} : ∀ (v0 : Nat) (v1 : Int32), rhF E 5 2 yX12_isHouse cX12_isHouse (some .boolean) Γ (rhe0I Γ M) (f_X12_isHouse Γ M v0 v1) 0 [(0, rhR v0), (1, rhI v1)] [] Γ M := by
  intro v0 v1
  rw [f_X12_isHouse]
  refine rhF.iload_n (pc := 0) dX12_isHouse_0 1 rfl ?_
  refine rhF.iconst (pc := 1) (v := 0) dX12_isHouse_1 (by decide) ?_
  refine rhF.aload_n (pc := 2) dX12_isHouse_2 0 rfl ?_
  refine rhF.ck (fun h1 => ?_)
  refine rhF.callV (pc := 3) (ci := 12) (embc := rhe0I _ _) [] dX12_isHouse_3 ml_X12_419 mv_X12_houseMany ⟨_, rfl, rfl⟩ h1 (c_X12_houseMany _ _ _ _) (by decide) (by decide) rfl (Nat.le_of_ble_eq_true rfl) (fun r2 _ => ?_)
  refine rhF.iconst (pc := 6) (v := 1) dX12_isHouse_6 (by decide) ?_
  refine rhF.isub (pc := 7) dX12_isHouse_7 ?_
  refine rhF.callS (pc := 8) (embc := rhe0I _ _) [rhI _, rhI _, rhI _] dX12_isHouse_8 ml_X12_415 ms_X12_isIn (c_X12_isIn _ _ _ _ _ _) (by decide) (by decide) rfl (Nat.le_of_ble_eq_true rfl) (fun r3 _ => ?_)
  refine rhF.ck (fun h4 => ?_)
  exact rhF.zret (pc := 11) dX12_isHouse_11 rfl (rhzb h4) rfl
theorem c_X12_isHouse (E : rhE) (Γ : rhG) (M : rhM) (v0 : Nat) (v1 : Int32) : ∀ a, f_X12_isHouse Γ M v0 v1 = some a → rhC E 5 yX12_isHouse cX12_isHouse 2 (some .boolean) [rhR v0, rhI v1] Γ M ((rhe0I Γ M) a) := rhF.met (by decide +kernel) (Nat.le_of_ble_eq_true rfl) (b_X12_isHouse v0 v1)
def f_X12_railOf_4 (k20 : Nat → Int32 → Int32 → Option (Int32)) (Γ : rhG) (M : rhM) : Nat → Nat → Int32 → Int32 → Int32 → Option (Int32)
  | 0, _, _, _, _ => none
  | n + 1, v0, v1, v2, v3 =>
    rhck (Γ.2.2.1 v0 = 13) <|
    rhck (Γ.2.2.1 (M.2.2 v0 39) = 15) <|
    rhck (0 ≤ (v2).toInt ∧ (v2).toInt < (Γ.2.2.2 (M.2.2 v0 39) : Nat)) <|
    if (M.1 (M.2.2 v0 39) v2.toNatClampNeg) = v1 then
      (k20 v0 v2 v3)
    else
      let x5 : Int32 := v2 + 1
      f_X12_railOf_4 k20 Γ M n v0 v1 x5 v3
def f_X12_railOf_20 (Γ : rhG) (M : rhM) : Nat → Nat → Int32 → Int32 → Option (Int32)
  | 0, _, _, _ => none
  | n + 1, v0, v2, v3 =>
    rhck (Γ.2.2.1 v0 = 13) <|
    rhck (Γ.2.2.1 (M.2.2 v0 40) = 15) <|
    rhck (0 ≤ (v3).toInt ∧ (v3).toInt < (Γ.2.2.2 (M.2.2 v0 40) : Nat)) <|
    if v2 < (M.1 (M.2.2 v0 40) v3.toNatClampNeg) then
      (some v3)
    else
      let x10 : Int32 := v3 + 1
      f_X12_railOf_20 Γ M n v0 v2 x10
def f_X12_railOf (Γ : rhG) (M : rhM) (v0 : Nat) (v1 : Int32) : Option (Int32) :=
  f_X12_railOf_4 (f_X12_railOf_20 Γ M rhFU) Γ M rhFU v0 v1 0 0
set_option maxHeartbeats 4000000 in
set_option maxRecDepth 100000 in
theorem b_X12_railOf_4 {E : rhE} {Γ : rhG} {M : rhM} {k20 : Nat → Int32 → Int32 → Option (Int32)} (hk20 : ∀ (v0 : Nat) (v2 : Int32) (v3 : Int32), rhF E 1 4 yX12_railOf cX12_railOf (some .int) Γ (rhe0I Γ M) (k20 v0 v2 v3) 20 [(0, rhR v0), (2, rhI v2), (3, rhI v3)] [] Γ M) : ∀ (n : Nat) (v0 : Nat) (v1 : Int32) (v2 : Int32) (v3 : Int32), rhF E 1 4 yX12_railOf cX12_railOf (some .int) Γ (rhe0I Γ M) (f_X12_railOf_4 k20 Γ M n v0 v1 v2 v3) 4 [(0, rhR v0), (1, rhI v1), (2, rhI v2), (3, rhI v3)] [] Γ M := by
  intro n
  induction n with
  | zero => intro v0 v1 v2 v3; rw [f_X12_railOf_4]; exact rhF.nope
  | succ n ih =>
    intro v0 v1 v2 v3
    rw [f_X12_railOf_4]
    refine rhF.aload_n (pc := 4) dX12_railOf_4 0 rfl ?_
    refine rhF.ck (fun h1 => ?_)
    refine rhF.get (pc := 5) (rhR _) dX12_railOf_5 fl_X12_92 h1 rfl ?_
    refine rhF.iload_n (pc := 8) dX12_railOf_8 2 rfl ?_
    refine rhF.ck (fun h2 => ?_)
    refine rhF.ck (fun h3 => ?_)
    refine rhF.iald (pc := 9) dX12_railOf_9 h2 h3 ?_
    refine rhF.iload_n (pc := 10) dX12_railOf_10 1 rfl ?_
    refine rhF.icmp_eq (pc := 11) 20 dX12_railOf_11 (by decide) (fun h4 => ?_) (fun h4 => ?_)
    · refine rhF.sub [0, 2, 3] rfl ?_
      exact hk20 _ _ _
    · refine rhF.iinc (pc := 14) (L' := [(2, rhI _), (0, rhR _), (1, rhI _), (3, rhI _)]) dX12_railOf_14 2 rfl rfl (by decide) rfl ?_
      refine rhF.goto (pc := 17) 4 dX12_railOf_17 (by decide) ?_
      refine rhF.sub [1, 2, 0, 3] rfl ?_
      exact ih _ _ _ _
set_option maxHeartbeats 4000000 in
set_option maxRecDepth 100000 in
theorem b_X12_railOf_20 {E : rhE} {Γ : rhG} {M : rhM} : ∀ (n : Nat) (v0 : Nat) (v2 : Int32) (v3 : Int32), rhF E 1 4 yX12_railOf cX12_railOf (some .int) Γ (rhe0I Γ M) (f_X12_railOf_20 Γ M n v0 v2 v3) 20 [(0, rhR v0), (2, rhI v2), (3, rhI v3)] [] Γ M := by
  intro n
  induction n with
  | zero => intro v0 v2 v3; rw [f_X12_railOf_20]; exact rhF.nope
  | succ n ih =>
    intro v0 v2 v3
    rw [f_X12_railOf_20]
    refine rhF.aload_n (pc := 20) dX12_railOf_20 0 rfl ?_
    refine rhF.ck (fun h6 => ?_)
    refine rhF.get (pc := 21) (rhR _) dX12_railOf_21 fl_X12_95 h6 rfl ?_
    refine rhF.iload_n (pc := 24) dX12_railOf_24 2 rfl ?_
    refine rhF.ck (fun h7 => ?_)
    refine rhF.ck (fun h8 => ?_)
    refine rhF.iald (pc := 25) dX12_railOf_25 h7 h8 ?_
    refine rhF.iload_n (pc := 26) dX12_railOf_26 1 rfl ?_
    refine rhF.icmp_gt (pc := 27) 36 dX12_railOf_27 (by decide) (fun h9 => ?_) (fun h9 => ?_)
    · refine rhF.iload_n (pc := 36) dX12_railOf_36 2 rfl ?_
      exact rhF.zret (pc := 37) dX12_railOf_37 rfl rfl rfl
    · refine rhF.iinc (pc := 30) (L' := [(3, rhI _), (0, rhR _), (2, rhI _)]) dX12_railOf_30 2 rfl rfl (by decide) rfl ?_
      refine rhF.goto (pc := 33) 20 dX12_railOf_33 (by decide) ?_
      refine rhF.sub [1, 2, 0] rfl ?_
      exact ih _ _ _
set_option maxHeartbeats 4000000 in
set_option maxRecDepth 100000 in
theorem b_X12_railOf {E : rhE} {Γ : rhG} {M : rhM} : ∀ (v0 : Nat) (v1 : Int32), rhF E 1 4 yX12_railOf cX12_railOf (some .int) Γ (rhe0I Γ M) (f_X12_railOf Γ M v0 v1) 0 [(0, rhR v0), (1, rhI v1)] [] Γ M := by
  intro v0 v1
  rw [f_X12_railOf]
  refine rhF.iconst (pc := 0) (v := 0) dX12_railOf_0 (by decide) ?_
  refine rhF.istore_n (pc := 1) (L' := [(2, rhI _), (0, rhR _), (1, rhI _)]) dX12_railOf_1 (by decide) rfl ?_
  refine rhF.iconst (pc := 2) (v := 0) dX12_railOf_2 (by decide) ?_
  refine rhF.istore_n (pc := 3) (L' := [(3, rhI _), (2, rhI _), (0, rhR _), (1, rhI _)]) dX12_railOf_3 (by decide) rfl ?_
  refine rhF.sub [2, 3, 1, 0] rfl ?_
  exact (b_X12_railOf_4 (b_X12_railOf_20 rhFU) rhFU) _ _ _ _
theorem c_X12_railOf (E : rhE) (Γ : rhG) (M : rhM) (v0 : Nat) (v1 : Int32) : ∀ a, f_X12_railOf Γ M v0 v1 = some a → rhC E 1 yX12_railOf cX12_railOf 4 (some .int) [rhR v0, rhI v1] Γ M ((rhe0I Γ M) a) := rhF.met (by decide +kernel) (Nat.le_of_ble_eq_true rfl) (b_X12_railOf v0 v1)
def f_X12_isSo_87 (k2 : Nat → Int32 → Int32 → Int32 → Option (Int32)) (Γ : rhG) (M : rhM) (v0 : Nat) (v1 : Int32) (v2 : Int32) (v3 : Int32) : Option (Int32) :=
  let x9 : Int32 := v3 + 1
  k2 v0 v1 v2 x9
def f_X12_isSo_76 (k87 : Nat → Int32 → Int32 → Int32 → Option (Int32)) (Γ : rhG) (M : rhM) (v0 : Nat) (v1 : Int32) (v2 : Int32) (v3 : Int32) (s0 : Int32) : Option (Int32) :=
  rhck (Γ.2.2.1 v0 = 13) <|
  rhck (Γ.2.2.1 (M.2.2 v0 81) = 17) <|
  rhck (0 ≤ (v3).toInt ∧ (v3).toInt < (Γ.2.2.2 (M.2.2 v0 81) : Nat)) <|
  if s0 = (M.1 (M.2.2 v0 81) v3.toNatClampNeg) then
    (k87 v0 v1 v2 v3)
  else
    some 0
def f_X12_isSo_52 (k87 : Nat → Int32 → Int32 → Int32 → Option (Int32)) (Γ : rhG) (M : rhM) (v0 : Nat) (v1 : Int32) (v2 : Int32) (v3 : Int32) : Option (Int32) :=
  rhck (Γ.2.2.1 v0 = 13) <|
  rhck (Γ.2.2.1 (M.2.2 v0 73) = 15) <|
  rhck (0 ≤ (v3).toInt ∧ (v3).toInt < (Γ.2.2.2 (M.2.2 v0 73) : Nat)) <|
  (f_X12_railOf Γ M v0 (M.1 (M.2.2 v0 73) v3.toNatClampNeg)).bind fun r16 =>
  rhck (Γ.2.2.1 (M.2.2 v0 74) = 15) <|
  rhck (0 ≤ (v3).toInt ∧ (v3).toInt < (Γ.2.2.2 (M.2.2 v0 74) : Nat)) <|
  if r16 = (M.1 (M.2.2 v0 74) v3.toNatClampNeg) then
    (f_X12_isSo_76 k87 Γ M v0 v1 v2 v3 1)
  else
    f_X12_isSo_76 k87 Γ M v0 v1 v2 v3 0
def f_X12_isSo_2 (Γ : rhG) (M : rhM) : Nat → Nat → Int32 → Int32 → Int32 → Option (Int32)
  | 0, _, _, _, _ => none
  | n + 1, v0, v1, v2, v3 =>
    rhck (Γ.2.2.1 v0 = 13) <|
    if v3 < (M.1 v0 82) then
      (rhck (Γ.2.2.1 (M.2.2 v0 72) = 15) <|
      rhck (0 ≤ (v3).toInt ∧ (v3).toInt < (Γ.2.2.2 (M.2.2 v0 72) : Nat)) <|
      if (M.1 (M.2.2 v0 72) v3.toNatClampNeg) = v1 then
        (rhck (Γ.2.2.1 (M.2.2 v0 75) = 15) <|
        rhck (0 ≤ (v3).toInt ∧ (v3).toInt < (Γ.2.2.2 (M.2.2 v0 75) : Nat)) <|
        if v2 < (M.1 (M.2.2 v0 75) v3.toNatClampNeg) then
          (f_X12_isSo_87 (f_X12_isSo_2 Γ M n) Γ M v0 v1 v2 v3)
        else
          rhck (Γ.2.2.1 (M.2.2 v0 76) = 15) <|
          rhck (0 ≤ (v3).toInt ∧ (v3).toInt < (Γ.2.2.2 (M.2.2 v0 76) : Nat)) <|
          if (M.1 (M.2.2 v0 76) v3.toNatClampNeg) < 0 then
            (f_X12_isSo_52 (f_X12_isSo_87 (f_X12_isSo_2 Γ M n) Γ M) Γ M v0 v1 v2 v3)
          else
            if v2 < (M.1 (M.2.2 v0 76) v3.toNatClampNeg) then
              (f_X12_isSo_52 (f_X12_isSo_87 (f_X12_isSo_2 Γ M n) Γ M) Γ M v0 v1 v2 v3)
            else
              f_X12_isSo_87 (f_X12_isSo_2 Γ M n) Γ M v0 v1 v2 v3)
      else
        f_X12_isSo_87 (f_X12_isSo_2 Γ M n) Γ M v0 v1 v2 v3)
    else
      some 1
def f_X12_isSo (Γ : rhG) (M : rhM) (v0 : Nat) (v1 : Int32) (v2 : Int32) : Option (Int32) :=
  f_X12_isSo_2 Γ M rhFU v0 v1 v2 0
set_option maxHeartbeats 4000000 in
set_option maxRecDepth 100000 in
theorem b_X12_isSo_87 {E : rhE} {Γ : rhG} {M : rhM} {k2 : Nat → Int32 → Int32 → Int32 → Option (Int32)} (hk2 : ∀ (v0 : Nat) (v1 : Int32) (v2 : Int32) (v3 : Int32), rhF E 5 4 yX12_isSo cX12_isSo (some .boolean) Γ (rhe0I Γ M) (k2 v0 v1 v2 v3) 2 [(0, rhR v0), (1, rhI v1), (2, rhI v2), (3, rhI v3)] [] Γ M) : ∀ (v0 : Nat) (v1 : Int32) (v2 : Int32) (v3 : Int32), rhF E 5 4 yX12_isSo cX12_isSo (some .boolean) Γ (rhe0I Γ M) (f_X12_isSo_87 k2 Γ M v0 v1 v2 v3) 87 [(0, rhR v0), (1, rhI v1), (2, rhI v2), (3, rhI v3)] [] Γ M := by
  intro v0 v1 v2 v3
  rw [f_X12_isSo_87]
  refine rhF.iinc (pc := 87) (L' := [(3, rhI _), (0, rhR _), (1, rhI _), (2, rhI _)]) dX12_isSo_87 3 rfl rfl (by decide) rfl ?_
  refine rhF.goto (pc := 90) 2 dX12_isSo_90 (by decide) ?_
  refine rhF.sub [1, 2, 3, 0] rfl ?_
  exact hk2 _ _ _ _
set_option maxHeartbeats 4000000 in
set_option maxRecDepth 100000 in
theorem b_X12_isSo_76 {E : rhE} {Γ : rhG} {M : rhM} {k87 : Nat → Int32 → Int32 → Int32 → Option (Int32)} (hk87 : ∀ (v0 : Nat) (v1 : Int32) (v2 : Int32) (v3 : Int32), rhF E 5 4 yX12_isSo cX12_isSo (some .boolean) Γ (rhe0I Γ M) (k87 v0 v1 v2 v3) 87 [(0, rhR v0), (1, rhI v1), (2, rhI v2), (3, rhI v3)] [] Γ M) : ∀ (v0 : Nat) (v1 : Int32) (v2 : Int32) (v3 : Int32) (s0 : Int32), rhF E 5 4 yX12_isSo cX12_isSo (some .boolean) Γ (rhe0I Γ M) (f_X12_isSo_76 k87 Γ M v0 v1 v2 v3 s0) 76 [(0, rhR v0), (1, rhI v1), (2, rhI v2), (3, rhI v3)] [rhI s0] Γ M := by
  intro v0 v1 v2 v3 s0
  rw [f_X12_isSo_76]
  refine rhF.aload_n (pc := 76) dX12_isSo_76 0 rfl ?_
  refine rhF.ck (fun h20 => ?_)
  refine rhF.get (pc := 77) (rhR _) dX12_isSo_77 fl_X12_187 h20 rfl ?_
  refine rhF.iload_n (pc := 80) dX12_isSo_80 3 rfl ?_
  refine rhF.ck (fun h21 => ?_)
  refine rhF.ck (fun h22 => ?_)
  refine rhF.zald (pc := 81) dX12_isSo_81 h21 h22 ?_
  refine rhF.icmp_eq (pc := 82) 87 dX12_isSo_82 (by decide) (fun h23 => ?_) (fun h23 => ?_)
  · exact hk87 _ _ _ _
  · refine rhF.iconst (pc := 85) (v := 0) dX12_isSo_85 (by decide) ?_
    exact rhF.zret (pc := 86) dX12_isSo_86 rfl rfl rfl
set_option maxHeartbeats 4000000 in
set_option maxRecDepth 100000 in
theorem b_X12_isSo_52 {E : rhE} {Γ : rhG} {M : rhM} {k87 : Nat → Int32 → Int32 → Int32 → Option (Int32)} (hk87 : ∀ (v0 : Nat) (v1 : Int32) (v2 : Int32) (v3 : Int32), rhF E 5 4 yX12_isSo cX12_isSo (some .boolean) Γ (rhe0I Γ M) (k87 v0 v1 v2 v3) 87 [(0, rhR v0), (1, rhI v1), (2, rhI v2), (3, rhI v3)] [] Γ M) : ∀ (v0 : Nat) (v1 : Int32) (v2 : Int32) (v3 : Int32), rhF E 5 4 yX12_isSo cX12_isSo (some .boolean) Γ (rhe0I Γ M) (f_X12_isSo_52 k87 Γ M v0 v1 v2 v3) 52 [(0, rhR v0), (1, rhI v1), (2, rhI v2), (3, rhI v3)] [] Γ M := by
  intro v0 v1 v2 v3
  rw [f_X12_isSo_52]
  refine rhF.aload_n (pc := 52) dX12_isSo_52 0 rfl ?_
  refine rhF.aload_n (pc := 53) dX12_isSo_53 0 rfl ?_
  refine rhF.ck (fun h13 => ?_)
  refine rhF.get (pc := 54) (rhR _) dX12_isSo_54 fl_X12_163 h13 rfl ?_
  refine rhF.iload_n (pc := 57) dX12_isSo_57 3 rfl ?_
  refine rhF.ck (fun h14 => ?_)
  refine rhF.ck (fun h15 => ?_)
  refine rhF.iald (pc := 58) dX12_isSo_58 h14 h15 ?_
  refine rhF.callV (pc := 59) (ci := 12) (embc := rhe0I _ _) [rhI _] dX12_isSo_59 ml_X12_559 mv_X12_railOf ⟨_, rfl, rfl⟩ h13 (c_X12_railOf _ _ _ _ _) (by decide) (by decide) rfl (Nat.le_of_ble_eq_true rfl) (fun r16 _ => ?_)
  refine rhF.aload_n (pc := 62) dX12_isSo_62 0 rfl ?_
  refine rhF.get (pc := 63) (rhR _) dX12_isSo_63 fl_X12_166 h13 rfl ?_
  refine rhF.iload_n (pc := 66) dX12_isSo_66 3 rfl ?_
  refine rhF.ck (fun h17 => ?_)
  refine rhF.ck (fun h18 => ?_)
  refine rhF.iald (pc := 67) dX12_isSo_67 h17 h18 ?_
  refine rhF.icmp_ne (pc := 68) 75 dX12_isSo_68 (by decide) (fun h19 => ?_) (fun h19 => ?_)
  · refine rhF.iconst (pc := 71) (v := 1) dX12_isSo_71 (by decide) ?_
    refine rhF.goto (pc := 72) 76 dX12_isSo_72 (by decide) ?_
    exact (b_X12_isSo_76 hk87) _ _ _ _ _
  · refine rhF.iconst (pc := 75) (v := 0) dX12_isSo_75 (by decide) ?_
    exact (b_X12_isSo_76 hk87) _ _ _ _ _
set_option maxHeartbeats 4000000 in
set_option maxRecDepth 100000 in
theorem b_X12_isSo_2 {E : rhE} {Γ : rhG} {M : rhM} : ∀ (n : Nat) (v0 : Nat) (v1 : Int32) (v2 : Int32) (v3 : Int32), rhF E 5 4 yX12_isSo cX12_isSo (some .boolean) Γ (rhe0I Γ M) (f_X12_isSo_2 Γ M n v0 v1 v2 v3) 2 [(0, rhR v0), (1, rhI v1), (2, rhI v2), (3, rhI v3)] [] Γ M := by
  intro n
  induction n with
  | zero => intro v0 v1 v2 v3; rw [f_X12_isSo_2]; exact rhF.nope
  | succ n ih =>
    intro v0 v1 v2 v3
    rw [f_X12_isSo_2]
    refine rhF.iload_n (pc := 2) dX12_isSo_2 3 rfl ?_
    refine rhF.aload_n (pc := 3) dX12_isSo_3 0 rfl ?_
    refine rhF.ck (fun h1 => ?_)
    refine rhF.get (pc := 4) (rhI _) dX12_isSo_4 fl_X12_333 h1 rfl ?_
    refine rhF.icmp_ge (pc := 7) 93 dX12_isSo_7 (by decide) (fun h2 => ?_) (fun h2 => ?_)
    · refine rhF.aload_n (pc := 10) dX12_isSo_10 0 rfl ?_
      refine rhF.get (pc := 11) (rhR _) dX12_isSo_11 fl_X12_160 h1 rfl ?_
      refine rhF.iload_n (pc := 14) dX12_isSo_14 3 rfl ?_
      refine rhF.ck (fun h3 => ?_)
      refine rhF.ck (fun h4 => ?_)
      refine rhF.iald (pc := 15) dX12_isSo_15 h3 h4 ?_
      refine rhF.iload_n (pc := 16) dX12_isSo_16 1 rfl ?_
      refine rhF.icmp_ne (pc := 17) 87 dX12_isSo_17 (by decide) (fun h5 => ?_) (fun h5 => ?_)
      · refine rhF.aload_n (pc := 20) dX12_isSo_20 0 rfl ?_
        refine rhF.get (pc := 21) (rhR _) dX12_isSo_21 fl_X12_169 h1 rfl ?_
        refine rhF.iload_n (pc := 24) dX12_isSo_24 3 rfl ?_
        refine rhF.ck (fun h6 => ?_)
        refine rhF.ck (fun h7 => ?_)
        refine rhF.iald (pc := 25) dX12_isSo_25 h6 h7 ?_
        refine rhF.iload_n (pc := 26) dX12_isSo_26 2 rfl ?_
        refine rhF.icmp_gt (pc := 27) 87 dX12_isSo_27 (by decide) (fun h8 => ?_) (fun h8 => ?_)
        · exact (b_X12_isSo_87 ih) _ _ _ _
        · refine rhF.aload_n (pc := 30) dX12_isSo_30 0 rfl ?_
          refine rhF.get (pc := 31) (rhR _) dX12_isSo_31 fl_X12_172 h1 rfl ?_
          refine rhF.iload_n (pc := 34) dX12_isSo_34 3 rfl ?_
          refine rhF.ck (fun h10 => ?_)
          refine rhF.ck (fun h11 => ?_)
          refine rhF.iald (pc := 35) dX12_isSo_35 h10 h11 ?_
          refine rhF.if_lt (pc := 36) 52 dX12_isSo_36 (by decide) (fun h12 => ?_) (fun h12 => ?_)
          · exact (b_X12_isSo_52 (b_X12_isSo_87 ih)) _ _ _ _
          · refine rhF.aload_n (pc := 39) dX12_isSo_39 0 rfl ?_
            refine rhF.get (pc := 40) (rhR _) dX12_isSo_40 fl_X12_172 h1 rfl ?_
            refine rhF.iload_n (pc := 43) dX12_isSo_43 3 rfl ?_
            refine rhF.iald (pc := 44) dX12_isSo_44 h10 h11 ?_
            refine rhF.iload_n (pc := 45) dX12_isSo_45 2 rfl ?_
            refine rhF.icmp_gt (pc := 46) 52 dX12_isSo_46 (by decide) (fun h24 => ?_) (fun h24 => ?_)
            · exact (b_X12_isSo_52 (b_X12_isSo_87 ih)) _ _ _ _
            · refine rhF.goto (pc := 49) 87 dX12_isSo_49 (by decide) ?_
              exact (b_X12_isSo_87 ih) _ _ _ _
      · exact (b_X12_isSo_87 ih) _ _ _ _
    · refine rhF.iconst (pc := 93) (v := 1) dX12_isSo_93 (by decide) ?_
      exact rhF.zret (pc := 94) dX12_isSo_94 rfl rfl rfl
set_option maxHeartbeats 4000000 in
set_option maxRecDepth 100000 in
theorem b_X12_isSo {E : rhE} {Γ : rhG} {M : rhM} : ∀ (v0 : Nat) (v1 : Int32) (v2 : Int32), rhF E 5 4 yX12_isSo cX12_isSo (some .boolean) Γ (rhe0I Γ M) (f_X12_isSo Γ M v0 v1 v2) 0 [(0, rhR v0), (1, rhI v1), (2, rhI v2)] [] Γ M := by
  intro v0 v1 v2
  rw [f_X12_isSo]
  refine rhF.iconst (pc := 0) (v := 0) dX12_isSo_0 (by decide) ?_
  refine rhF.istore_n (pc := 1) (L' := [(3, rhI _), (0, rhR _), (1, rhI _), (2, rhI _)]) dX12_isSo_1 (by decide) rfl ?_
  refine rhF.sub [1, 2, 3, 0] rfl ?_
  exact (b_X12_isSo_2 rhFU) _ _ _ _
theorem c_X12_isSo (E : rhE) (Γ : rhG) (M : rhM) (v0 : Nat) (v1 : Int32) (v2 : Int32) : ∀ a, f_X12_isSo Γ M v0 v1 v2 = some a → rhC E 5 yX12_isSo cX12_isSo 4 (some .boolean) [rhR v0, rhI v1, rhI v2] Γ M ((rhe0I Γ M) a) := rhF.met (by decide +kernel) (Nat.le_of_ble_eq_true rfl) (b_X12_isSo v0 v1 v2)
def f_X12_keepTried_2 (k31 : rhM → Nat → Int32 → Option (rhM)) (Γ : rhG) : Nat → rhM → Nat → Int32 → Int32 → Option (rhM)
  | 0, _, _, _, _ => none
  | n + 1, M, v0, v1, v2 =>
    if v2 < 8 then
      (rhck (Γ.2.2.1 v0 = 13) <|
      rhck (Γ.2.2.1 (M.2.2 v0 39) = 15) <|
      rhck (0 ≤ (v2).toInt ∧ (v2).toInt < (Γ.2.2.2 (M.2.2 v0 39) : Nat)) <|
      rhck (Γ.2.2.1 (M.2.2 v0 78) = 15) <|
      rhck (0 ≤ ((8 * v1) + v2).toInt ∧ ((8 * v1) + v2).toInt < (Γ.2.2.2 (M.2.2 v0 78) : Nat)) <|
      let M7 := rhsi M (M.2.2 v0 78) ((8 * v1) + v2 : Int32).toNatClampNeg (M.1 (M.2.2 v0 39) v2.toNatClampNeg)
      let x8 : Int32 := v2 + 1
      f_X12_keepTried_2 k31 Γ n M7 v0 v1 x8)
    else
      k31 M v0 v1
def f_X12_keepTried_33 (Γ : rhG) : Nat → rhM → Nat → Int32 → Int32 → Option (rhM)
  | 0, _, _, _, _ => none
  | n + 1, M, v0, v1, v2 =>
    if v2 < 5 then
      (rhck (Γ.2.2.1 v0 = 13) <|
      rhck (Γ.2.2.1 (M.2.2 v0 40) = 15) <|
      rhck (0 ≤ (v2).toInt ∧ (v2).toInt < (Γ.2.2.2 (M.2.2 v0 40) : Nat)) <|
      rhck (Γ.2.2.1 (M.2.2 v0 79) = 15) <|
      rhck (0 ≤ ((6 * v1) + v2).toInt ∧ ((6 * v1) + v2).toInt < (Γ.2.2.2 (M.2.2 v0 79) : Nat)) <|
      let M15 := rhsi M (M.2.2 v0 79) ((6 * v1) + v2 : Int32).toNatClampNeg (M.1 (M.2.2 v0 40) v2.toNatClampNeg)
      let x16 : Int32 := v2 + 1
      f_X12_keepTried_33 Γ n M15 v0 v1 x16)
    else
      some M
def f_X12_keepTried_31 (Γ : rhG) (M : rhM) (v0 : Nat) (v1 : Int32) : Option (rhM) :=
  f_X12_keepTried_33 Γ rhFU M v0 v1 0
def f_X12_keepTried (Γ : rhG) (M : rhM) (v0 : Nat) (v1 : Int32) : Option (rhM) :=
  f_X12_keepTried_2 (f_X12_keepTried_31 Γ) Γ rhFU M v0 v1 0
set_option maxHeartbeats 4000000 in
set_option maxRecDepth 100000 in
theorem b_X12_keepTried_2 {E : rhE} {Γ : rhG} {k31 : rhM → Nat → Int32 → Option (rhM)} (hk31 : ∀ (M : rhM) (v0 : Nat) (v1 : Int32), rhF E 1 3 yX12_keepTried cX12_keepTried none Γ (rhe1U Γ) (k31 M v0 v1) 31 [(0, rhR v0), (1, rhI v1)] [] Γ M) : ∀ (n : Nat) (M : rhM) (v0 : Nat) (v1 : Int32) (v2 : Int32), rhF E 1 3 yX12_keepTried cX12_keepTried none Γ (rhe1U Γ) (f_X12_keepTried_2 k31 Γ n M v0 v1 v2) 2 [(0, rhR v0), (1, rhI v1), (2, rhI v2)] [] Γ M := by
  intro n
  induction n with
  | zero => intro M v0 v1 v2; rw [f_X12_keepTried_2]; exact rhF.nope
  | succ n ih =>
    intro M v0 v1 v2
    rw [f_X12_keepTried_2]
    refine rhF.iload_n (pc := 2) dX12_keepTried_2 2 rfl ?_
    refine rhF.bipush (pc := 3) (v := 8) dX12_keepTried_3 (by decide) ?_
    refine rhF.icmp_ge (pc := 5) 31 dX12_keepTried_5 (by decide) (fun h1 => ?_) (fun h1 => ?_)
    · refine rhF.aload_n (pc := 8) dX12_keepTried_8 0 rfl ?_
      refine rhF.ck (fun h2 => ?_)
      refine rhF.get (pc := 9) (rhR _) dX12_keepTried_9 fl_X12_178 h2 rfl ?_
      refine rhF.bipush (pc := 12) (v := 8) dX12_keepTried_12 (by decide) ?_
      refine rhF.iload_n (pc := 14) dX12_keepTried_14 1 rfl ?_
      refine rhF.imul (pc := 15) dX12_keepTried_15 ?_
      refine rhF.iload_n (pc := 16) dX12_keepTried_16 2 rfl ?_
      refine rhF.iadd (pc := 17) dX12_keepTried_17 ?_
      refine rhF.aload_n (pc := 18) dX12_keepTried_18 0 rfl ?_
      refine rhF.get (pc := 19) (rhR _) dX12_keepTried_19 fl_X12_92 h2 rfl ?_
      refine rhF.iload_n (pc := 22) dX12_keepTried_22 2 rfl ?_
      refine rhF.ck (fun h3 => ?_)
      refine rhF.ck (fun h4 => ?_)
      refine rhF.iald (pc := 23) dX12_keepTried_23 h3 h4 ?_
      refine rhF.ck (fun h5 => ?_)
      refine rhF.ck (fun h6 => ?_)
      refine rhF.iast (pc := 24) dX12_keepTried_24 h5 h6 ?_
      refine rhF.iinc (pc := 25) (L' := [(2, rhI _), (0, rhR _), (1, rhI _)]) dX12_keepTried_25 2 rfl rfl (by decide) rfl ?_
      refine rhF.goto (pc := 28) 2 dX12_keepTried_28 (by decide) ?_
      refine rhF.sub [1, 2, 0] rfl ?_
      exact ih _ _ _ _
    · refine rhF.sub [0, 1] rfl ?_
      exact hk31 _ _ _
set_option maxHeartbeats 4000000 in
set_option maxRecDepth 100000 in
theorem b_X12_keepTried_33 {E : rhE} {Γ : rhG} : ∀ (n : Nat) (M : rhM) (v0 : Nat) (v1 : Int32) (v2 : Int32), rhF E 1 3 yX12_keepTried cX12_keepTried none Γ (rhe1U Γ) (f_X12_keepTried_33 Γ n M v0 v1 v2) 33 [(0, rhR v0), (1, rhI v1), (2, rhI v2)] [] Γ M := by
  intro n
  induction n with
  | zero => intro M v0 v1 v2; rw [f_X12_keepTried_33]; exact rhF.nope
  | succ n ih =>
    intro M v0 v1 v2
    rw [f_X12_keepTried_33]
    refine rhF.iload_n (pc := 33) dX12_keepTried_33 2 rfl ?_
    refine rhF.iconst (pc := 34) (v := 5) dX12_keepTried_34 (by decide) ?_
    refine rhF.icmp_ge (pc := 35) 61 dX12_keepTried_35 (by decide) (fun h9 => ?_) (fun h9 => ?_)
    · refine rhF.aload_n (pc := 38) dX12_keepTried_38 0 rfl ?_
      refine rhF.ck (fun h10 => ?_)
      refine rhF.get (pc := 39) (rhR _) dX12_keepTried_39 fl_X12_181 h10 rfl ?_
      refine rhF.bipush (pc := 42) (v := 6) dX12_keepTried_42 (by decide) ?_
      refine rhF.iload_n (pc := 44) dX12_keepTried_44 1 rfl ?_
      refine rhF.imul (pc := 45) dX12_keepTried_45 ?_
      refine rhF.iload_n (pc := 46) dX12_keepTried_46 2 rfl ?_
      refine rhF.iadd (pc := 47) dX12_keepTried_47 ?_
      refine rhF.aload_n (pc := 48) dX12_keepTried_48 0 rfl ?_
      refine rhF.get (pc := 49) (rhR _) dX12_keepTried_49 fl_X12_95 h10 rfl ?_
      refine rhF.iload_n (pc := 52) dX12_keepTried_52 2 rfl ?_
      refine rhF.ck (fun h11 => ?_)
      refine rhF.ck (fun h12 => ?_)
      refine rhF.iald (pc := 53) dX12_keepTried_53 h11 h12 ?_
      refine rhF.ck (fun h13 => ?_)
      refine rhF.ck (fun h14 => ?_)
      refine rhF.iast (pc := 54) dX12_keepTried_54 h13 h14 ?_
      refine rhF.iinc (pc := 55) (L' := [(2, rhI _), (0, rhR _), (1, rhI _)]) dX12_keepTried_55 2 rfl rfl (by decide) rfl ?_
      refine rhF.goto (pc := 58) 33 dX12_keepTried_58 (by decide) ?_
      refine rhF.sub [1, 2, 0] rfl ?_
      exact ih _ _ _ _
    · exact rhF.vret (pc := 61) dX12_keepTried_61 rfl rfl
set_option maxHeartbeats 4000000 in
set_option maxRecDepth 100000 in
theorem b_X12_keepTried_31 {E : rhE} {Γ : rhG} : ∀ (M : rhM) (v0 : Nat) (v1 : Int32), rhF E 1 3 yX12_keepTried cX12_keepTried none Γ (rhe1U Γ) (f_X12_keepTried_31 Γ M v0 v1) 31 [(0, rhR v0), (1, rhI v1)] [] Γ M := by
  intro M v0 v1
  rw [f_X12_keepTried_31]
  refine rhF.iconst (pc := 31) (v := 0) dX12_keepTried_31 (by decide) ?_
  refine rhF.istore_n (pc := 32) (L' := [(2, rhI _), (0, rhR _), (1, rhI _)]) dX12_keepTried_32 (by decide) rfl ?_
  refine rhF.sub [1, 2, 0] rfl ?_
  exact (b_X12_keepTried_33 rhFU) _ _ _ _
set_option maxHeartbeats 4000000 in
set_option maxRecDepth 100000 in
theorem b_X12_keepTried {E : rhE} {Γ : rhG} : ∀ (M : rhM) (v0 : Nat) (v1 : Int32), rhF E 1 3 yX12_keepTried cX12_keepTried none Γ (rhe1U Γ) (f_X12_keepTried Γ M v0 v1) 0 [(0, rhR v0), (1, rhI v1)] [] Γ M := by
  intro M v0 v1
  rw [f_X12_keepTried]
  refine rhF.iconst (pc := 0) (v := 0) dX12_keepTried_0 (by decide) ?_
  refine rhF.istore_n (pc := 1) (L' := [(2, rhI _), (0, rhR _), (1, rhI _)]) dX12_keepTried_1 (by decide) rfl ?_
  refine rhF.sub [1, 2, 0] rfl ?_
  exact (b_X12_keepTried_2 (b_X12_keepTried_31) rhFU) _ _ _ _
theorem c_X12_keepTried (E : rhE) (Γ : rhG) (M : rhM) (v0 : Nat) (v1 : Int32) : ∀ a, f_X12_keepTried Γ M v0 v1 = some a → rhC E 1 yX12_keepTried cX12_keepTried 3 none [rhR v0, rhI v1] Γ M ((rhe1U Γ) a) := rhF.met (by decide +kernel) (Nat.le_of_ble_eq_true rfl) (b_X12_keepTried M v0 v1)
def f_X12_meets_2 (Γ : rhG) : Nat → rhM → Nat → Int32 → Option (Int32 × rhM)
  | 0, _, _, _ => none
  | n + 1, M, v0, v1 =>
    rhck (Γ.2.2.1 v0 = 13) <|
    (f_X12_houseMany Γ M v0).bind fun r2 =>
    if v1 < r2 then
      (rhck (Γ.2.2.1 (M.2.2 v0 77) = 15) <|
      rhck (0 ≤ (v1).toInt ∧ (v1).toInt < (Γ.2.2.2 (M.2.2 v0 77) : Nat)) <|
      (f_X12_railOf Γ M v0 v1).bind fun r6 =>
      let M7 := rhsi M (M.2.2 v0 77) (v1 : Int32).toNatClampNeg ((M.1 (M.2.2 v0 77) v1.toNatClampNeg) ||| (1 <<< (r6 &&& 31)))
      let x8 : Int32 := v1 + 1
      f_X12_meets_2 Γ n M7 v0 x8)
    else
      some ((1, M))
def f_X12_meets (Γ : rhG) (M : rhM) (v0 : Nat) : Option (Int32 × rhM) :=
  f_X12_meets_2 Γ rhFU M v0 0
set_option maxHeartbeats 4000000 in
set_option maxRecDepth 100000 in
theorem b_X12_meets_2 {E : rhE} {Γ : rhG} : ∀ (n : Nat) (M : rhM) (v0 : Nat) (v1 : Int32), rhF E 5 2 yX12_meets cX12_meets (some .int) Γ (rhe1I Γ) (f_X12_meets_2 Γ n M v0 v1) 2 [(0, rhR v0), (1, rhI v1)] [] Γ M := by
  intro n
  induction n with
  | zero => intro M v0 v1; rw [f_X12_meets_2]; exact rhF.nope
  | succ n ih =>
    intro M v0 v1
    rw [f_X12_meets_2]
    refine rhF.iload_n (pc := 2) dX12_meets_2 1 rfl ?_
    refine rhF.aload_n (pc := 3) dX12_meets_3 0 rfl ?_
    refine rhF.ck (fun h1 => ?_)
    refine rhF.callV (pc := 4) (ci := 12) (embc := rhe0I _ _) [] dX12_meets_4 ml_X12_419 mv_X12_houseMany ⟨_, rfl, rfl⟩ h1 (c_X12_houseMany _ _ _ _) (by decide) (by decide) rfl (Nat.le_of_ble_eq_true rfl) (fun r2 _ => ?_)
    refine rhF.icmp_ge (pc := 7) 32 dX12_meets_7 (by decide) (fun h3 => ?_) (fun h3 => ?_)
    · refine rhF.aload_n (pc := 10) dX12_meets_10 0 rfl ?_
      refine rhF.get (pc := 11) (rhR _) dX12_meets_11 fl_X12_175 h1 rfl ?_
      refine rhF.iload_n (pc := 14) dX12_meets_14 1 rfl ?_
      refine rhF.dup2ri (pc := 15) dX12_meets_15 ?_
      refine rhF.ck (fun h4 => ?_)
      refine rhF.ck (fun h5 => ?_)
      refine rhF.iald (pc := 16) dX12_meets_16 h4 h5 ?_
      refine rhF.iconst (pc := 17) (v := 1) dX12_meets_17 (by decide) ?_
      refine rhF.aload_n (pc := 18) dX12_meets_18 0 rfl ?_
      refine rhF.iload_n (pc := 19) dX12_meets_19 1 rfl ?_
      refine rhF.callV (pc := 20) (ci := 12) (embc := rhe0I _ _) [rhI _] dX12_meets_20 ml_X12_559 mv_X12_railOf ⟨_, rfl, rfl⟩ h1 (c_X12_railOf _ _ _ _ _) (by decide) (by decide) rfl (Nat.le_of_ble_eq_true rfl) (fun r6 _ => ?_)
      refine rhF.ishl (pc := 23) dX12_meets_23 ?_
      refine rhF.ior (pc := 24) dX12_meets_24 ?_
      refine rhF.iast (pc := 25) dX12_meets_25 h4 h5 ?_
      refine rhF.iinc (pc := 26) (L' := [(1, rhI _), (0, rhR _)]) dX12_meets_26 1 rfl rfl (by decide) rfl ?_
      refine rhF.goto (pc := 29) 2 dX12_meets_29 (by decide) ?_
      refine rhF.sub [1, 0] rfl ?_
      exact ih _ _ _
    · refine rhF.iconst (pc := 32) (v := 1) dX12_meets_32 (by decide) ?_
      exact rhF.zret (pc := 33) dX12_meets_33 rfl rfl rfl
set_option maxHeartbeats 4000000 in
set_option maxRecDepth 100000 in
theorem b_X12_meets {E : rhE} {Γ : rhG} : ∀ (M : rhM) (v0 : Nat), rhF E 5 2 yX12_meets cX12_meets (some .int) Γ (rhe1I Γ) (f_X12_meets Γ M v0) 0 [(0, rhR v0)] [] Γ M := by
  intro M v0
  rw [f_X12_meets]
  refine rhF.iconst (pc := 0) (v := 0) dX12_meets_0 (by decide) ?_
  refine rhF.istore_n (pc := 1) (L' := [(1, rhI _), (0, rhR _)]) dX12_meets_1 (by decide) rfl ?_
  refine rhF.sub [1, 0] rfl ?_
  exact (b_X12_meets_2 rhFU) _ _ _
theorem c_X12_meets (E : rhE) (Γ : rhG) (M : rhM) (v0 : Nat) : ∀ a, f_X12_meets Γ M v0 = some a → rhC E 5 yX12_meets cX12_meets 2 (some .int) [rhR v0] Γ M ((rhe1I Γ) a) := rhF.met (by decide +kernel) (Nat.le_of_ble_eq_true rfl) (b_X12_meets M v0)
def f_X12_moves_13 (k42 : rhM → Nat → Int32 → Int32 → Int32 → Int32 → Option (rhM)) (Γ : rhG) : Nat → rhM → Nat → Int32 → Int32 → Int32 → Int32 → Int32 → Option (rhM)
  | 0, _, _, _, _, _, _, _ => none
  | n + 1, M, v0, v1, v2, v3, v4, v5 =>
    if v5 < v2 then
      (rhck (Γ.2.2.1 v0 = 13) <|
      rhck (Γ.2.2.1 (M.2.2 v0 39) = 15) <|
      rhck (0 ≤ (v4 + v5).toInt ∧ (v4 + v5).toInt < (Γ.2.2.2 (M.2.2 v0 39) : Nat)) <|
      rhck (Γ.2.2.1 (M.2.2 v0 41) = 15) <|
      rhck (0 ≤ (v5).toInt ∧ (v5).toInt < (Γ.2.2.2 (M.2.2 v0 41) : Nat)) <|
      let M11 := rhsi M (M.2.2 v0 41) (v5 : Int32).toNatClampNeg (M.1 (M.2.2 v0 39) (v4 + v5).toNatClampNeg)
      let x12 : Int32 := v5 + 1
      f_X12_moves_13 k42 Γ n M11 v0 v1 v2 v3 v4 x12)
    else
      k42 M v0 v1 v2 v3 v4
def f_X12_moves_51 (k86 : rhM → Nat → Int32 → Int32 → Int32 → Option (rhM)) (Γ : rhG) : Nat → rhM → Nat → Int32 → Int32 → Int32 → Int32 → Option (rhM)
  | 0, _, _, _, _, _, _ => none
  | n + 1, M, v0, v1, v2, v3, v5 =>
    rhck (Γ.2.2.1 v0 = 13) <|
    rhck (Γ.2.2.1 (M.2.2 v0 40) = 15) <|
    rhck (0 ≤ (v3).toInt ∧ (v3).toInt < (Γ.2.2.2 (M.2.2 v0 40) : Nat)) <|
    if (v5 + v2) < (M.1 (M.2.2 v0 40) v3.toNatClampNeg) then
      (rhck (Γ.2.2.1 (M.2.2 v0 39) = 15) <|
      rhck (0 ≤ (v5 + v2).toInt ∧ (v5 + v2).toInt < (Γ.2.2.2 (M.2.2 v0 39) : Nat)) <|
      rhck (0 ≤ (v5).toInt ∧ (v5).toInt < (Γ.2.2.2 (M.2.2 v0 39) : Nat)) <|
      let M21 := rhsi M (M.2.2 v0 39) (v5 : Int32).toNatClampNeg (M.1 (M.2.2 v0 39) (v5 + v2).toNatClampNeg)
      let x22 : Int32 := v5 + 1
      f_X12_moves_51 k86 Γ n M21 v0 v1 v2 v3 x22)
    else
      k86 M v0 v1 v2 v3
def f_X12_moves_89 (k112 : rhM → Nat → Int32 → Int32 → Option (rhM)) (Γ : rhG) : Nat → rhM → Nat → Int32 → Int32 → Int32 → Option (rhM)
  | 0, _, _, _, _, _ => none
  | n + 1, M, v0, v2, v3, v5 =>
    if v5 < v3 then
      (rhck (Γ.2.2.1 v0 = 13) <|
      rhck (Γ.2.2.1 (M.2.2 v0 40) = 15) <|
      rhck (0 ≤ (v5).toInt ∧ (v5).toInt < (Γ.2.2.2 (M.2.2 v0 40) : Nat)) <|
      let M27 := rhsi M (M.2.2 v0 40) (v5 : Int32).toNatClampNeg ((M.1 (M.2.2 v0 40) v5.toNatClampNeg) - v2)
      let x28 : Int32 := v5 + 1
      f_X12_moves_89 k112 Γ n M27 v0 v2 v3 x28)
    else
      k112 M v0 v2 v3
def f_X12_moves_112 (k180 : rhM → Nat → Int32 → Int32 → Option (rhM)) (Γ : rhG) (M : rhM) (v0 : Nat) (v2 : Int32) (v3 : Int32) : Option (rhM) :=
  k180 M v0 v2 v3
def f_X12_moves_86 (k180 : rhM → Nat → Int32 → Int32 → Option (rhM)) (Γ : rhG) (M : rhM) (v0 : Nat) (v1 : Int32) (v2 : Int32) (v3 : Int32) : Option (rhM) :=
  f_X12_moves_89 (f_X12_moves_112 k180 Γ) Γ rhFU M v0 v2 v3 v1
def f_X12_moves_183 (Γ : rhG) : Nat → rhM → Nat → Int32 → Int32 → Int32 → Option (rhM)
  | 0, _, _, _, _, _ => none
  | n + 1, M, v0, v2, v3, v5 =>
    if v5 < v2 then
      (rhck (Γ.2.2.1 v0 = 13) <|
      rhck (Γ.2.2.1 (M.2.2 v0 40) = 15) <|
      rhck (0 ≤ (v3).toInt ∧ (v3).toInt < (Γ.2.2.2 (M.2.2 v0 40) : Nat)) <|
      rhck (Γ.2.2.1 (M.2.2 v0 41) = 15) <|
      rhck (0 ≤ (v5).toInt ∧ (v5).toInt < (Γ.2.2.2 (M.2.2 v0 41) : Nat)) <|
      rhck (Γ.2.2.1 (M.2.2 v0 39) = 15) <|
      rhck (0 ≤ (((M.1 (M.2.2 v0 40) v3.toNatClampNeg) - v2) + v5).toInt ∧ (((M.1 (M.2.2 v0 40) v3.toNatClampNeg) - v2) + v5).toInt < (Γ.2.2.2 (M.2.2 v0 39) : Nat)) <|
      let M37 := rhsi M (M.2.2 v0 39) (((M.1 (M.2.2 v0 40) v3.toNatClampNeg) - v2) + v5 : Int32).toNatClampNeg (M.1 (M.2.2 v0 41) v5.toNatClampNeg)
      let x38 : Int32 := v5 + 1
      f_X12_moves_183 Γ n M37 v0 v2 v3 x38)
    else
      some M
def f_X12_moves_180 (Γ : rhG) (M : rhM) (v0 : Nat) (v2 : Int32) (v3 : Int32) : Option (rhM) :=
  f_X12_moves_183 Γ rhFU M v0 v2 v3 0
def f_X12_moves_121 (k154 : rhM → Nat → Int32 → Int32 → Int32 → Option (rhM)) (Γ : rhG) : Nat → rhM → Nat → Int32 → Int32 → Int32 → Int32 → Option (rhM)
  | 0, _, _, _, _, _, _ => none
  | n + 1, M, v0, v1, v2, v3, v5 =>
    rhck (Γ.2.2.1 v0 = 13) <|
    rhck (Γ.2.2.1 (M.2.2 v0 40) = 15) <|
    rhck (0 ≤ (v3).toInt ∧ (v3).toInt < (Γ.2.2.2 (M.2.2 v0 40) : Nat)) <|
    if v5 < (M.1 (M.2.2 v0 40) v3.toNatClampNeg) then
      (k154 M v0 v1 v2 v3)
    else
      rhck (Γ.2.2.1 (M.2.2 v0 39) = 15) <|
      rhck (0 ≤ (v5).toInt ∧ (v5).toInt < (Γ.2.2.2 (M.2.2 v0 39) : Nat)) <|
      rhck (0 ≤ (v5 + v2).toInt ∧ (v5 + v2).toInt < (Γ.2.2.2 (M.2.2 v0 39) : Nat)) <|
      let M47 := rhsi M (M.2.2 v0 39) (v5 + v2 : Int32).toNatClampNeg (M.1 (M.2.2 v0 39) v5.toNatClampNeg)
      let x48 : Int32 := v5 + (-1)
      f_X12_moves_121 k154 Γ n M47 v0 v1 v2 v3 x48
def f_X12_moves_157 (k180 : rhM → Nat → Int32 → Int32 → Option (rhM)) (Γ : rhG) : Nat → rhM → Nat → Int32 → Int32 → Int32 → Int32 → Option (rhM)
  | 0, _, _, _, _, _, _ => none
  | n + 1, M, v0, v1, v2, v3, v5 =>
    if v5 < v1 then
      (rhck (Γ.2.2.1 v0 = 13) <|
      rhck (Γ.2.2.1 (M.2.2 v0 40) = 15) <|
      rhck (0 ≤ (v5).toInt ∧ (v5).toInt < (Γ.2.2.2 (M.2.2 v0 40) : Nat)) <|
      let M53 := rhsi M (M.2.2 v0 40) (v5 : Int32).toNatClampNeg ((M.1 (M.2.2 v0 40) v5.toNatClampNeg) + v2)
      let x54 : Int32 := v5 + 1
      f_X12_moves_157 k180 Γ n M53 v0 v1 v2 v3 x54)
    else
      k180 M v0 v2 v3
def f_X12_moves_154 (k180 : rhM → Nat → Int32 → Int32 → Option (rhM)) (Γ : rhG) (M : rhM) (v0 : Nat) (v1 : Int32) (v2 : Int32) (v3 : Int32) : Option (rhM) :=
  f_X12_moves_157 k180 Γ rhFU M v0 v1 v2 v3 v3
def f_X12_moves_42 (Γ : rhG) (M : rhM) (v0 : Nat) (v1 : Int32) (v2 : Int32) (v3 : Int32) (v4 : Int32) : Option (rhM) :=
  if v1 < v3 then
    (f_X12_moves_51 (f_X12_moves_86 (f_X12_moves_180 Γ) Γ) Γ rhFU M v0 v1 v2 v3 v4)
  else
    let x39 := v4 - 1
    f_X12_moves_121 (f_X12_moves_154 (f_X12_moves_180 Γ) Γ) Γ rhFU M v0 v1 v2 v3 x39
def f_X12_moves (Γ : rhG) (M : rhM) (v0 : Nat) (v1 : Int32) (v2 : Int32) (v3 : Int32) : Option (rhM) :=
  rhck (Γ.2.2.1 v0 = 13) <|
  rhck (Γ.2.2.1 (M.2.2 v0 40) = 15) <|
  rhck (0 ≤ (v1).toInt ∧ (v1).toInt < (Γ.2.2.2 (M.2.2 v0 40) : Nat)) <|
  let x4 := (M.1 (M.2.2 v0 40) v1.toNatClampNeg) - v2
  f_X12_moves_13 (f_X12_moves_42 Γ) Γ rhFU M v0 v1 v2 v3 x4 0
set_option maxHeartbeats 4000000 in
set_option maxRecDepth 100000 in
theorem b_X12_moves_13 {E : rhE} {Γ : rhG} {k42 : rhM → Nat → Int32 → Int32 → Int32 → Int32 → Option (rhM)} (hk42 : ∀ (M : rhM) (v0 : Nat) (v1 : Int32) (v2 : Int32) (v3 : Int32) (v4 : Int32), rhF E 1 6 yX12_moves cX12_moves none Γ (rhe1U Γ) (k42 M v0 v1 v2 v3 v4) 42 [(0, rhR v0), (1, rhI v1), (2, rhI v2), (3, rhI v3), (4, rhI v4)] [] Γ M) : ∀ (n : Nat) (M : rhM) (v0 : Nat) (v1 : Int32) (v2 : Int32) (v3 : Int32) (v4 : Int32) (v5 : Int32), rhF E 1 6 yX12_moves cX12_moves none Γ (rhe1U Γ) (f_X12_moves_13 k42 Γ n M v0 v1 v2 v3 v4 v5) 13 [(0, rhR v0), (1, rhI v1), (2, rhI v2), (3, rhI v3), (4, rhI v4), (5, rhI v5)] [] Γ M := by
  intro n
  induction n with
  | zero => intro M v0 v1 v2 v3 v4 v5; rw [f_X12_moves_13]; exact rhF.nope
  | succ n ih =>
    intro M v0 v1 v2 v3 v4 v5
    rw [f_X12_moves_13]
    refine rhF.iload (pc := 13) dX12_moves_13 5 rfl ?_
    refine rhF.iload_n (pc := 15) dX12_moves_15 2 rfl ?_
    refine rhF.icmp_ge (pc := 16) 42 dX12_moves_16 (by decide) (fun h5 => ?_) (fun h5 => ?_)
    · refine rhF.aload_n (pc := 19) dX12_moves_19 0 rfl ?_
      refine rhF.ck (fun h6 => ?_)
      refine rhF.get (pc := 20) (rhR _) dX12_moves_20 fl_X12_98 h6 rfl ?_
      refine rhF.iload (pc := 23) dX12_moves_23 5 rfl ?_
      refine rhF.aload_n (pc := 25) dX12_moves_25 0 rfl ?_
      refine rhF.get (pc := 26) (rhR _) dX12_moves_26 fl_X12_92 h6 rfl ?_
      refine rhF.iload (pc := 29) dX12_moves_29 4 rfl ?_
      refine rhF.iload (pc := 31) dX12_moves_31 5 rfl ?_
      refine rhF.iadd (pc := 33) dX12_moves_33 ?_
      refine rhF.ck (fun h7 => ?_)
      refine rhF.ck (fun h8 => ?_)
      refine rhF.iald (pc := 34) dX12_moves_34 h7 h8 ?_
      refine rhF.ck (fun h9 => ?_)
      refine rhF.ck (fun h10 => ?_)
      refine rhF.iast (pc := 35) dX12_moves_35 h9 h10 ?_
      refine rhF.iinc (pc := 36) (L' := [(5, rhI _), (0, rhR _), (1, rhI _), (2, rhI _), (3, rhI _), (4, rhI _)]) dX12_moves_36 5 rfl rfl (by decide) rfl ?_
      refine rhF.goto (pc := 39) 13 dX12_moves_39 (by decide) ?_
      refine rhF.sub [1, 2, 3, 4, 5, 0] rfl ?_
      exact ih _ _ _ _ _ _ _
    · refine rhF.sub [0, 1, 2, 3, 4] rfl ?_
      exact hk42 _ _ _ _ _ _
set_option maxHeartbeats 4000000 in
set_option maxRecDepth 100000 in
theorem b_X12_moves_51 {E : rhE} {Γ : rhG} {k86 : rhM → Nat → Int32 → Int32 → Int32 → Option (rhM)} (hk86 : ∀ (M : rhM) (v0 : Nat) (v1 : Int32) (v2 : Int32) (v3 : Int32), rhF E 1 6 yX12_moves cX12_moves none Γ (rhe1U Γ) (k86 M v0 v1 v2 v3) 86 [(0, rhR v0), (1, rhI v1), (2, rhI v2), (3, rhI v3)] [] Γ M) : ∀ (n : Nat) (M : rhM) (v0 : Nat) (v1 : Int32) (v2 : Int32) (v3 : Int32) (v5 : Int32), rhF E 1 6 yX12_moves cX12_moves none Γ (rhe1U Γ) (f_X12_moves_51 k86 Γ n M v0 v1 v2 v3 v5) 51 [(0, rhR v0), (1, rhI v1), (2, rhI v2), (3, rhI v3), (5, rhI v5)] [] Γ M := by
  intro n
  induction n with
  | zero => intro M v0 v1 v2 v3 v5; rw [f_X12_moves_51]; exact rhF.nope
  | succ n ih =>
    intro M v0 v1 v2 v3 v5
    rw [f_X12_moves_51]
    refine rhF.iload (pc := 51) dX12_moves_51 4 rfl ?_
    refine rhF.iload_n (pc := 53) dX12_moves_53 2 rfl ?_
    refine rhF.iadd (pc := 54) dX12_moves_54 ?_
    refine rhF.aload_n (pc := 55) dX12_moves_55 0 rfl ?_
    refine rhF.ck (fun h14 => ?_)
    refine rhF.get (pc := 56) (rhR _) dX12_moves_56 fl_X12_95 h14 rfl ?_
    refine rhF.iload_n (pc := 59) dX12_moves_59 3 rfl ?_
    refine rhF.ck (fun h15 => ?_)
    refine rhF.ck (fun h16 => ?_)
    refine rhF.iald (pc := 60) dX12_moves_60 h15 h16 ?_
    refine rhF.icmp_ge (pc := 61) 86 dX12_moves_61 (by decide) (fun h17 => ?_) (fun h17 => ?_)
    · refine rhF.aload_n (pc := 64) dX12_moves_64 0 rfl ?_
      refine rhF.get (pc := 65) (rhR _) dX12_moves_65 fl_X12_92 h14 rfl ?_
      refine rhF.iload (pc := 68) dX12_moves_68 4 rfl ?_
      refine rhF.aload_n (pc := 70) dX12_moves_70 0 rfl ?_
      refine rhF.get (pc := 71) (rhR _) dX12_moves_71 fl_X12_92 h14 rfl ?_
      refine rhF.iload (pc := 74) dX12_moves_74 4 rfl ?_
      refine rhF.iload_n (pc := 76) dX12_moves_76 2 rfl ?_
      refine rhF.iadd (pc := 77) dX12_moves_77 ?_
      refine rhF.ck (fun h18 => ?_)
      refine rhF.ck (fun h19 => ?_)
      refine rhF.iald (pc := 78) dX12_moves_78 h18 h19 ?_
      refine rhF.ck (fun h20 => ?_)
      refine rhF.iast (pc := 79) dX12_moves_79 h18 h20 ?_
      refine rhF.iinc (pc := 80) (L' := [(5, rhI _), (0, rhR _), (1, rhI _), (2, rhI _), (3, rhI _)]) dX12_moves_80 4 rfl rfl (by decide) rfl ?_
      refine rhF.goto (pc := 83) 51 dX12_moves_83 (by decide) ?_
      refine rhF.sub [1, 2, 3, 4, 0] rfl ?_
      exact ih _ _ _ _ _ _
    · refine rhF.sub [0, 1, 2, 3] rfl ?_
      exact hk86 _ _ _ _ _
set_option maxHeartbeats 4000000 in
set_option maxRecDepth 100000 in
theorem b_X12_moves_89 {E : rhE} {Γ : rhG} {k112 : rhM → Nat → Int32 → Int32 → Option (rhM)} (hk112 : ∀ (M : rhM) (v0 : Nat) (v2 : Int32) (v3 : Int32), rhF E 1 6 yX12_moves cX12_moves none Γ (rhe1U Γ) (k112 M v0 v2 v3) 112 [(0, rhR v0), (2, rhI v2), (3, rhI v3)] [] Γ M) : ∀ (n : Nat) (M : rhM) (v0 : Nat) (v2 : Int32) (v3 : Int32) (v5 : Int32), rhF E 1 6 yX12_moves cX12_moves none Γ (rhe1U Γ) (f_X12_moves_89 k112 Γ n M v0 v2 v3 v5) 89 [(0, rhR v0), (2, rhI v2), (3, rhI v3), (5, rhI v5)] [] Γ M := by
  intro n
  induction n with
  | zero => intro M v0 v2 v3 v5; rw [f_X12_moves_89]; exact rhF.nope
  | succ n ih =>
    intro M v0 v2 v3 v5
    rw [f_X12_moves_89]
    refine rhF.iload (pc := 89) dX12_moves_89 3 rfl ?_
    refine rhF.iload_n (pc := 91) dX12_moves_91 2 rfl ?_
    refine rhF.icmp_ge (pc := 92) 112 dX12_moves_92 (by decide) (fun h23 => ?_) (fun h23 => ?_)
    · refine rhF.aload_n (pc := 95) dX12_moves_95 0 rfl ?_
      refine rhF.ck (fun h24 => ?_)
      refine rhF.get (pc := 96) (rhR _) dX12_moves_96 fl_X12_95 h24 rfl ?_
      refine rhF.iload (pc := 99) dX12_moves_99 3 rfl ?_
      refine rhF.dup2ri (pc := 101) dX12_moves_101 ?_
      refine rhF.ck (fun h25 => ?_)
      refine rhF.ck (fun h26 => ?_)
      refine rhF.iald (pc := 102) dX12_moves_102 h25 h26 ?_
      refine rhF.iload_n (pc := 103) dX12_moves_103 1 rfl ?_
      refine rhF.isub (pc := 104) dX12_moves_104 ?_
      refine rhF.iast (pc := 105) dX12_moves_105 h25 h26 ?_
      refine rhF.iinc (pc := 106) (L' := [(5, rhI _), (0, rhR _), (2, rhI _), (3, rhI _)]) dX12_moves_106 3 rfl rfl (by decide) rfl ?_
      refine rhF.goto (pc := 109) 89 dX12_moves_109 (by decide) ?_
      refine rhF.sub [1, 2, 3, 0] rfl ?_
      exact ih _ _ _ _ _
    · refine rhF.sub [0, 1, 2] rfl ?_
      exact hk112 _ _ _ _
set_option maxHeartbeats 4000000 in
set_option maxRecDepth 100000 in
theorem b_X12_moves_112 {E : rhE} {Γ : rhG} {k180 : rhM → Nat → Int32 → Int32 → Option (rhM)} (hk180 : ∀ (M : rhM) (v0 : Nat) (v2 : Int32) (v3 : Int32), rhF E 1 6 yX12_moves cX12_moves none Γ (rhe1U Γ) (k180 M v0 v2 v3) 180 [(0, rhR v0), (2, rhI v2), (3, rhI v3)] [] Γ M) : ∀ (M : rhM) (v0 : Nat) (v2 : Int32) (v3 : Int32), rhF E 1 6 yX12_moves cX12_moves none Γ (rhe1U Γ) (f_X12_moves_112 k180 Γ M v0 v2 v3) 112 [(0, rhR v0), (2, rhI v2), (3, rhI v3)] [] Γ M := by
  intro M v0 v2 v3
  rw [f_X12_moves_112]
  refine rhF.goto (pc := 112) 180 dX12_moves_112 (by decide) ?_
  exact hk180 _ _ _ _
set_option maxHeartbeats 4000000 in
set_option maxRecDepth 100000 in
theorem b_X12_moves_86 {E : rhE} {Γ : rhG} {k180 : rhM → Nat → Int32 → Int32 → Option (rhM)} (hk180 : ∀ (M : rhM) (v0 : Nat) (v2 : Int32) (v3 : Int32), rhF E 1 6 yX12_moves cX12_moves none Γ (rhe1U Γ) (k180 M v0 v2 v3) 180 [(0, rhR v0), (2, rhI v2), (3, rhI v3)] [] Γ M) : ∀ (M : rhM) (v0 : Nat) (v1 : Int32) (v2 : Int32) (v3 : Int32), rhF E 1 6 yX12_moves cX12_moves none Γ (rhe1U Γ) (f_X12_moves_86 k180 Γ M v0 v1 v2 v3) 86 [(0, rhR v0), (1, rhI v1), (2, rhI v2), (3, rhI v3)] [] Γ M := by
  intro M v0 v1 v2 v3
  rw [f_X12_moves_86]
  refine rhF.iload_n (pc := 86) dX12_moves_86 1 rfl ?_
  refine rhF.istore (pc := 87) (L' := [(5, rhI _), (0, rhR _), (1, rhI _), (2, rhI _), (3, rhI _)]) dX12_moves_87 (by decide) rfl ?_
  refine rhF.sub [1, 3, 4, 0] rfl ?_
  exact (b_X12_moves_89 (b_X12_moves_112 hk180) rhFU) _ _ _ _ _
set_option maxHeartbeats 4000000 in
set_option maxRecDepth 100000 in
theorem b_X12_moves_183 {E : rhE} {Γ : rhG} : ∀ (n : Nat) (M : rhM) (v0 : Nat) (v2 : Int32) (v3 : Int32) (v5 : Int32), rhF E 1 6 yX12_moves cX12_moves none Γ (rhe1U Γ) (f_X12_moves_183 Γ n M v0 v2 v3 v5) 183 [(0, rhR v0), (2, rhI v2), (3, rhI v3), (5, rhI v5)] [] Γ M := by
  intro n
  induction n with
  | zero => intro M v0 v2 v3 v5; rw [f_X12_moves_183]; exact rhF.nope
  | succ n ih =>
    intro M v0 v2 v3 v5
    rw [f_X12_moves_183]
    refine rhF.iload (pc := 183) dX12_moves_183 3 rfl ?_
    refine rhF.iload_n (pc := 185) dX12_moves_185 1 rfl ?_
    refine rhF.icmp_ge (pc := 186) 218 dX12_moves_186 (by decide) (fun h29 => ?_) (fun h29 => ?_)
    · refine rhF.aload_n (pc := 189) dX12_moves_189 0 rfl ?_
      refine rhF.ck (fun h30 => ?_)
      refine rhF.get (pc := 190) (rhR _) dX12_moves_190 fl_X12_92 h30 rfl ?_
      refine rhF.aload_n (pc := 193) dX12_moves_193 0 rfl ?_
      refine rhF.get (pc := 194) (rhR _) dX12_moves_194 fl_X12_95 h30 rfl ?_
      refine rhF.iload_n (pc := 197) dX12_moves_197 2 rfl ?_
      refine rhF.ck (fun h31 => ?_)
      refine rhF.ck (fun h32 => ?_)
      refine rhF.iald (pc := 198) dX12_moves_198 h31 h32 ?_
      refine rhF.iload_n (pc := 199) dX12_moves_199 1 rfl ?_
      refine rhF.isub (pc := 200) dX12_moves_200 ?_
      refine rhF.iload (pc := 201) dX12_moves_201 3 rfl ?_
      refine rhF.iadd (pc := 203) dX12_moves_203 ?_
      refine rhF.aload_n (pc := 204) dX12_moves_204 0 rfl ?_
      refine rhF.get (pc := 205) (rhR _) dX12_moves_205 fl_X12_98 h30 rfl ?_
      refine rhF.iload (pc := 208) dX12_moves_208 3 rfl ?_
      refine rhF.ck (fun h33 => ?_)
      refine rhF.ck (fun h34 => ?_)
      refine rhF.iald (pc := 210) dX12_moves_210 h33 h34 ?_
      refine rhF.ck (fun h35 => ?_)
      refine rhF.ck (fun h36 => ?_)
      refine rhF.iast (pc := 211) dX12_moves_211 h35 h36 ?_
      refine rhF.iinc (pc := 212) (L' := [(5, rhI _), (0, rhR _), (2, rhI _), (3, rhI _)]) dX12_moves_212 3 rfl rfl (by decide) rfl ?_
      refine rhF.goto (pc := 215) 183 dX12_moves_215 (by decide) ?_
      refine rhF.sub [1, 2, 3, 0] rfl ?_
      exact ih _ _ _ _ _
    · exact rhF.vret (pc := 218) dX12_moves_218 rfl rfl
set_option maxHeartbeats 4000000 in
set_option maxRecDepth 100000 in
theorem b_X12_moves_180 {E : rhE} {Γ : rhG} : ∀ (M : rhM) (v0 : Nat) (v2 : Int32) (v3 : Int32), rhF E 1 6 yX12_moves cX12_moves none Γ (rhe1U Γ) (f_X12_moves_180 Γ M v0 v2 v3) 180 [(0, rhR v0), (2, rhI v2), (3, rhI v3)] [] Γ M := by
  intro M v0 v2 v3
  rw [f_X12_moves_180]
  refine rhF.iconst (pc := 180) (v := 0) dX12_moves_180 (by decide) ?_
  refine rhF.istore (pc := 181) (L' := [(5, rhI _), (0, rhR _), (2, rhI _), (3, rhI _)]) dX12_moves_181 (by decide) rfl ?_
  refine rhF.sub [1, 2, 3, 0] rfl ?_
  exact (b_X12_moves_183 rhFU) _ _ _ _ _
set_option maxHeartbeats 4000000 in
set_option maxRecDepth 100000 in
theorem b_X12_moves_121 {E : rhE} {Γ : rhG} {k154 : rhM → Nat → Int32 → Int32 → Int32 → Option (rhM)} (hk154 : ∀ (M : rhM) (v0 : Nat) (v1 : Int32) (v2 : Int32) (v3 : Int32), rhF E 1 6 yX12_moves cX12_moves none Γ (rhe1U Γ) (k154 M v0 v1 v2 v3) 154 [(0, rhR v0), (1, rhI v1), (2, rhI v2), (3, rhI v3)] [] Γ M) : ∀ (n : Nat) (M : rhM) (v0 : Nat) (v1 : Int32) (v2 : Int32) (v3 : Int32) (v5 : Int32), rhF E 1 6 yX12_moves cX12_moves none Γ (rhe1U Γ) (f_X12_moves_121 k154 Γ n M v0 v1 v2 v3 v5) 121 [(0, rhR v0), (1, rhI v1), (2, rhI v2), (3, rhI v3), (5, rhI v5)] [] Γ M := by
  intro n
  induction n with
  | zero => intro M v0 v1 v2 v3 v5; rw [f_X12_moves_121]; exact rhF.nope
  | succ n ih =>
    intro M v0 v1 v2 v3 v5
    rw [f_X12_moves_121]
    refine rhF.iload (pc := 121) dX12_moves_121 4 rfl ?_
    refine rhF.aload_n (pc := 123) dX12_moves_123 0 rfl ?_
    refine rhF.ck (fun h40 => ?_)
    refine rhF.get (pc := 124) (rhR _) dX12_moves_124 fl_X12_95 h40 rfl ?_
    refine rhF.iload_n (pc := 127) dX12_moves_127 3 rfl ?_
    refine rhF.ck (fun h41 => ?_)
    refine rhF.ck (fun h42 => ?_)
    refine rhF.iald (pc := 128) dX12_moves_128 h41 h42 ?_
    refine rhF.icmp_lt (pc := 129) 154 dX12_moves_129 (by decide) (fun h43 => ?_) (fun h43 => ?_)
    · refine rhF.sub [0, 1, 2, 3] rfl ?_
      exact hk154 _ _ _ _ _
    · refine rhF.aload_n (pc := 132) dX12_moves_132 0 rfl ?_
      refine rhF.get (pc := 133) (rhR _) dX12_moves_133 fl_X12_92 h40 rfl ?_
      refine rhF.iload (pc := 136) dX12_moves_136 4 rfl ?_
      refine rhF.iload_n (pc := 138) dX12_moves_138 2 rfl ?_
      refine rhF.iadd (pc := 139) dX12_moves_139 ?_
      refine rhF.aload_n (pc := 140) dX12_moves_140 0 rfl ?_
      refine rhF.get (pc := 141) (rhR _) dX12_moves_141 fl_X12_92 h40 rfl ?_
      refine rhF.iload (pc := 144) dX12_moves_144 4 rfl ?_
      refine rhF.ck (fun h44 => ?_)
      refine rhF.ck (fun h45 => ?_)
      refine rhF.iald (pc := 146) dX12_moves_146 h44 h45 ?_
      refine rhF.ck (fun h46 => ?_)
      refine rhF.iast (pc := 147) dX12_moves_147 h44 h46 ?_
      refine rhF.iinc (pc := 148) (L' := [(5, rhI _), (0, rhR _), (1, rhI _), (2, rhI _), (3, rhI _)]) dX12_moves_148 4 rfl rfl (by decide) rfl ?_
      refine rhF.goto (pc := 151) 121 dX12_moves_151 (by decide) ?_
      refine rhF.sub [1, 2, 3, 4, 0] rfl ?_
      exact ih _ _ _ _ _ _
set_option maxHeartbeats 4000000 in
set_option maxRecDepth 100000 in
theorem b_X12_moves_157 {E : rhE} {Γ : rhG} {k180 : rhM → Nat → Int32 → Int32 → Option (rhM)} (hk180 : ∀ (M : rhM) (v0 : Nat) (v2 : Int32) (v3 : Int32), rhF E 1 6 yX12_moves cX12_moves none Γ (rhe1U Γ) (k180 M v0 v2 v3) 180 [(0, rhR v0), (2, rhI v2), (3, rhI v3)] [] Γ M) : ∀ (n : Nat) (M : rhM) (v0 : Nat) (v1 : Int32) (v2 : Int32) (v3 : Int32) (v5 : Int32), rhF E 1 6 yX12_moves cX12_moves none Γ (rhe1U Γ) (f_X12_moves_157 k180 Γ n M v0 v1 v2 v3 v5) 157 [(0, rhR v0), (1, rhI v1), (2, rhI v2), (3, rhI v3), (5, rhI v5)] [] Γ M := by
  intro n
  induction n with
  | zero => intro M v0 v1 v2 v3 v5; rw [f_X12_moves_157]; exact rhF.nope
  | succ n ih =>
    intro M v0 v1 v2 v3 v5
    rw [f_X12_moves_157]
    refine rhF.iload (pc := 157) dX12_moves_157 4 rfl ?_
    refine rhF.iload_n (pc := 159) dX12_moves_159 1 rfl ?_
    refine rhF.icmp_ge (pc := 160) 180 dX12_moves_160 (by decide) (fun h49 => ?_) (fun h49 => ?_)
    · refine rhF.aload_n (pc := 163) dX12_moves_163 0 rfl ?_
      refine rhF.ck (fun h50 => ?_)
      refine rhF.get (pc := 164) (rhR _) dX12_moves_164 fl_X12_95 h50 rfl ?_
      refine rhF.iload (pc := 167) dX12_moves_167 4 rfl ?_
      refine rhF.dup2ri (pc := 169) dX12_moves_169 ?_
      refine rhF.ck (fun h51 => ?_)
      refine rhF.ck (fun h52 => ?_)
      refine rhF.iald (pc := 170) dX12_moves_170 h51 h52 ?_
      refine rhF.iload_n (pc := 171) dX12_moves_171 2 rfl ?_
      refine rhF.iadd (pc := 172) dX12_moves_172 ?_
      refine rhF.iast (pc := 173) dX12_moves_173 h51 h52 ?_
      refine rhF.iinc (pc := 174) (L' := [(5, rhI _), (0, rhR _), (1, rhI _), (2, rhI _), (3, rhI _)]) dX12_moves_174 4 rfl rfl (by decide) rfl ?_
      refine rhF.goto (pc := 177) 157 dX12_moves_177 (by decide) ?_
      refine rhF.sub [1, 2, 3, 4, 0] rfl ?_
      exact ih _ _ _ _ _ _
    · refine rhF.sub [0, 2, 3] rfl ?_
      exact hk180 _ _ _ _
set_option maxHeartbeats 4000000 in
set_option maxRecDepth 100000 in
theorem b_X12_moves_154 {E : rhE} {Γ : rhG} {k180 : rhM → Nat → Int32 → Int32 → Option (rhM)} (hk180 : ∀ (M : rhM) (v0 : Nat) (v2 : Int32) (v3 : Int32), rhF E 1 6 yX12_moves cX12_moves none Γ (rhe1U Γ) (k180 M v0 v2 v3) 180 [(0, rhR v0), (2, rhI v2), (3, rhI v3)] [] Γ M) : ∀ (M : rhM) (v0 : Nat) (v1 : Int32) (v2 : Int32) (v3 : Int32), rhF E 1 6 yX12_moves cX12_moves none Γ (rhe1U Γ) (f_X12_moves_154 k180 Γ M v0 v1 v2 v3) 154 [(0, rhR v0), (1, rhI v1), (2, rhI v2), (3, rhI v3)] [] Γ M := by
  intro M v0 v1 v2 v3
  rw [f_X12_moves_154]
  refine rhF.iload_n (pc := 154) dX12_moves_154 3 rfl ?_
  refine rhF.istore (pc := 155) (L' := [(5, rhI _), (0, rhR _), (1, rhI _), (2, rhI _), (3, rhI _)]) dX12_moves_155 (by decide) rfl ?_
  refine rhF.sub [1, 2, 3, 4, 0] rfl ?_
  exact (b_X12_moves_157 hk180 rhFU) _ _ _ _ _ _
set_option maxHeartbeats 4000000 in
set_option maxRecDepth 100000 in
theorem b_X12_moves_42 {E : rhE} {Γ : rhG} : ∀ (M : rhM) (v0 : Nat) (v1 : Int32) (v2 : Int32) (v3 : Int32) (v4 : Int32), rhF E 1 6 yX12_moves cX12_moves none Γ (rhe1U Γ) (f_X12_moves_42 Γ M v0 v1 v2 v3 v4) 42 [(0, rhR v0), (1, rhI v1), (2, rhI v2), (3, rhI v3), (4, rhI v4)] [] Γ M := by
  intro M v0 v1 v2 v3 v4
  rw [f_X12_moves_42]
  refine rhF.iload_n (pc := 42) dX12_moves_42 1 rfl ?_
  refine rhF.iload_n (pc := 43) dX12_moves_43 3 rfl ?_
  refine rhF.icmp_ge (pc := 44) 115 dX12_moves_44 (by decide) (fun h13 => ?_) (fun h13 => ?_)
  · refine rhF.iload (pc := 47) dX12_moves_47 4 rfl ?_
    refine rhF.istore (pc := 49) (L' := [(5, rhI _), (0, rhR _), (1, rhI _), (2, rhI _), (3, rhI _), (4, rhI _)]) dX12_moves_49 (by decide) rfl ?_
    refine rhF.sub [1, 2, 3, 4, 0] rfl ?_
    exact (b_X12_moves_51 (b_X12_moves_86 (b_X12_moves_180)) rhFU) _ _ _ _ _ _
  · refine rhF.iload (pc := 115) dX12_moves_115 4 rfl ?_
    refine rhF.iconst (pc := 117) (v := 1) dX12_moves_117 (by decide) ?_
    refine rhF.isub (pc := 118) dX12_moves_118 ?_
    refine rhF.istore (pc := 119) (L' := [(5, rhI _), (0, rhR _), (1, rhI _), (2, rhI _), (3, rhI _), (4, rhI _)]) dX12_moves_119 (by decide) rfl ?_
    refine rhF.sub [1, 2, 3, 4, 0] rfl ?_
    exact (b_X12_moves_121 (b_X12_moves_154 (b_X12_moves_180)) rhFU) _ _ _ _ _ _
set_option maxHeartbeats 4000000 in
set_option maxRecDepth 100000 in
theorem b_X12_moves {E : rhE} {Γ : rhG} : ∀ (M : rhM) (v0 : Nat) (v1 : Int32) (v2 : Int32) (v3 : Int32), rhF E 1 6 yX12_moves cX12_moves none Γ (rhe1U Γ) (f_X12_moves Γ M v0 v1 v2 v3) 0 [(0, rhR v0), (1, rhI v1), (2, rhI v2), (3, rhI v3)] [] Γ M := by
  intro M v0 v1 v2 v3
  rw [f_X12_moves]
  refine rhF.aload_n (pc := 0) dX12_moves_0 0 rfl ?_
  refine rhF.ck (fun h1 => ?_)
  refine rhF.get (pc := 1) (rhR _) dX12_moves_1 fl_X12_95 h1 rfl ?_
  refine rhF.iload_n (pc := 4) dX12_moves_4 1 rfl ?_
  refine rhF.ck (fun h2 => ?_)
  refine rhF.ck (fun h3 => ?_)
  refine rhF.iald (pc := 5) dX12_moves_5 h2 h3 ?_
  refine rhF.iload_n (pc := 6) dX12_moves_6 2 rfl ?_
  refine rhF.isub (pc := 7) dX12_moves_7 ?_
  refine rhF.istore (pc := 8) (L' := [(4, rhI _), (0, rhR _), (1, rhI _), (2, rhI _), (3, rhI _)]) dX12_moves_8 (by decide) rfl ?_
  refine rhF.iconst (pc := 10) (v := 0) dX12_moves_10 (by decide) ?_
  refine rhF.istore (pc := 11) (L' := [(5, rhI _), (4, rhI _), (0, rhR _), (1, rhI _), (2, rhI _), (3, rhI _)]) dX12_moves_11 (by decide) rfl ?_
  refine rhF.sub [2, 3, 4, 5, 1, 0] rfl ?_
  exact (b_X12_moves_13 (b_X12_moves_42) rhFU) _ _ _ _ _ _ _
theorem c_X12_moves (E : rhE) (Γ : rhG) (M : rhM) (v0 : Nat) (v1 : Int32) (v2 : Int32) (v3 : Int32) : ∀ a, f_X12_moves Γ M v0 v1 v2 v3 = some a → rhC E 1 yX12_moves cX12_moves 6 none [rhR v0, rhI v1, rhI v2, rhI v3] Γ M ((rhe1U Γ) a) := rhF.met (by decide +kernel) (Nat.le_of_ble_eq_true rfl) (b_X12_moves M v0 v1 v2 v3)
def f_X12_isLawful (Γ : rhG) (M : rhM) (v0 : Nat) (v1 : Int32) (v2 : Int32) (v3 : Int32) : Option (Int32 × rhM) :=
  rhck (Γ.2.2.1 v0 = 13) <|
  (f_X12_canBe Γ M v0 v1 v2 v3).bind fun r2 =>
  if r2 = 0 then
    (some ((0, M)))
  else
    (f_X12_sumOf Γ M v0 (M.2.2 v0 19) v1 v2).bind fun r4 =>
    rhck (Γ.2.2.1 (M.2.2 v0 15) = 15) <|
    rhck (0 ≤ (M.1 v0 34).toInt ∧ (M.1 v0 34).toInt < (Γ.2.2.2 (M.2.2 v0 15) : Nat)) <|
    if (M.1 (M.2.2 v0 15) (M.1 v0 34).toNatClampNeg) < r4 then
      (some ((0, M)))
    else
      (f_X12_roomOn Γ M v0 v3).bind fun r8 =>
      if r8 < r4 then
        (some ((0, M)))
      else
        (f_X12_sumOf Γ M v0 (M.2.2 v0 20) v1 v2).bind fun r10 =>
        rhck (Γ.2.2.1 (M.2.2 v0 16) = 15) <|
        rhck (0 ≤ (M.1 v0 34).toInt ∧ (M.1 v0 34).toInt < (Γ.2.2.2 (M.2.2 v0 16) : Nat)) <|
        if (M.1 (M.2.2 v0 16) (M.1 v0 34).toNatClampNeg) < r10 then
          (some ((0, M)))
        else
          (f_X12_comes Γ M v0 v1 v2 v3).bind fun r14 =>
          if r14.1 = 0 then
            (some ((0, r14.2)))
          else
            some ((1, r14.2))
set_option maxHeartbeats 4000000 in
set_option maxRecDepth 100000 in
theorem b_X12_isLawful {E : rhE} {Γ : rhG} : ∀ (M : rhM) (v0 : Nat) (v1 : Int32) (v2 : Int32) (v3 : Int32), rhF E 8 5 yX12_isLawful cX12_isLawful (some .boolean) Γ (rhe1I Γ) (f_X12_isLawful Γ M v0 v1 v2 v3) 0 [(0, rhR v0), (1, rhI v1), (2, rhI v2), (3, rhI v3)] [] Γ M := by
  intro M v0 v1 v2 v3
  rw [f_X12_isLawful]
  refine rhF.aload_n (pc := 0) dX12_isLawful_0 0 rfl ?_
  refine rhF.iload_n (pc := 1) dX12_isLawful_1 1 rfl ?_
  refine rhF.iload_n (pc := 2) dX12_isLawful_2 2 rfl ?_
  refine rhF.iload_n (pc := 3) dX12_isLawful_3 3 rfl ?_
  refine rhF.ck (fun h1 => ?_)
  refine rhF.callV (pc := 4) (ci := 12) (embc := rhe0I _ _) [rhI _, rhI _, rhI _] dX12_isLawful_4 ml_X12_446 mv_X12_canBe ⟨_, rfl, rfl⟩ h1 (c_X12_canBe _ _ _ _ _ _ _) (by decide) (by decide) rfl (Nat.le_of_ble_eq_true rfl) (fun r2 _ => ?_)
  refine rhF.if_ne (pc := 7) 12 dX12_isLawful_7 (by decide) (fun h3 => ?_) (fun h3 => ?_)
  · refine rhF.iconst (pc := 10) (v := 0) dX12_isLawful_10 (by decide) ?_
    exact rhF.zret (pc := 11) dX12_isLawful_11 rfl rfl rfl
  · refine rhF.aload_n (pc := 12) dX12_isLawful_12 0 rfl ?_
    refine rhF.aload_n (pc := 13) dX12_isLawful_13 0 rfl ?_
    refine rhF.get (pc := 14) (rhR _) dX12_isLawful_14 fl_X12_45 h1 rfl ?_
    refine rhF.iload_n (pc := 17) dX12_isLawful_17 1 rfl ?_
    refine rhF.iload_n (pc := 18) dX12_isLawful_18 2 rfl ?_
    refine rhF.callV (pc := 19) (ci := 12) (embc := rhe0I _ _) [rhR _, rhI _, rhI _] dX12_isLawful_19 ml_X12_431 mv_X12_sumOf ⟨_, rfl, rfl⟩ h1 (c_X12_sumOf _ _ _ _ _ _ _) (by decide) (by decide) rfl (Nat.le_of_ble_eq_true rfl) (fun r4 _ => ?_)
    refine rhF.istore (pc := 22) (L' := [(4, rhI _), (0, rhR _), (1, rhI _), (2, rhI _), (3, rhI _)]) dX12_isLawful_22 (by decide) rfl ?_
    refine rhF.iload (pc := 24) dX12_isLawful_24 0 rfl ?_
    refine rhF.aload_n (pc := 26) dX12_isLawful_26 1 rfl ?_
    refine rhF.get (pc := 27) (rhR _) dX12_isLawful_27 fl_X12_33 h1 rfl ?_
    refine rhF.aload_n (pc := 30) dX12_isLawful_30 1 rfl ?_
    refine rhF.get (pc := 31) (rhI _) dX12_isLawful_31 fl_X12_327 h1 rfl ?_
    refine rhF.ck (fun h5 => ?_)
    refine rhF.ck (fun h6 => ?_)
    refine rhF.iald (pc := 34) dX12_isLawful_34 h5 h6 ?_
    refine rhF.icmp_gt (pc := 35) 84 dX12_isLawful_35 (by decide) (fun h7 => ?_) (fun h7 => ?_)
    · refine rhF.iconst (pc := 84) (v := 0) dX12_isLawful_84 (by decide) ?_
      exact rhF.zret (pc := 85) dX12_isLawful_85 rfl rfl rfl
    · refine rhF.iload (pc := 38) dX12_isLawful_38 0 rfl ?_
      refine rhF.aload_n (pc := 40) dX12_isLawful_40 1 rfl ?_
      refine rhF.iload_n (pc := 41) dX12_isLawful_41 4 rfl ?_
      refine rhF.callV (pc := 42) (ci := 12) (embc := rhe0I _ _) [rhI _] dX12_isLawful_42 ml_X12_435 mv_X12_roomOn ⟨_, rfl, rfl⟩ h1 (c_X12_roomOn _ _ _ _ _) (by decide) (by decide) rfl (Nat.le_of_ble_eq_true rfl) (fun r8 _ => ?_)
      refine rhF.icmp_gt (pc := 45) 84 dX12_isLawful_45 (by decide) (fun h9 => ?_) (fun h9 => ?_)
      · refine rhF.iconst (pc := 84) (v := 0) dX12_isLawful_84 (by decide) ?_
        exact rhF.zret (pc := 85) dX12_isLawful_85 rfl rfl rfl
      · refine rhF.aload_n (pc := 48) dX12_isLawful_48 1 rfl ?_
        refine rhF.aload_n (pc := 49) dX12_isLawful_49 1 rfl ?_
        refine rhF.get (pc := 50) (rhR _) dX12_isLawful_50 fl_X12_48 h1 rfl ?_
        refine rhF.iload_n (pc := 53) dX12_isLawful_53 2 rfl ?_
        refine rhF.iload_n (pc := 54) dX12_isLawful_54 3 rfl ?_
        refine rhF.callV (pc := 55) (ci := 12) (embc := rhe0I _ _) [rhR _, rhI _, rhI _] dX12_isLawful_55 ml_X12_431 mv_X12_sumOf ⟨_, rfl, rfl⟩ h1 (c_X12_sumOf _ _ _ _ _ _ _) (by decide) (by decide) rfl (Nat.le_of_ble_eq_true rfl) (fun r10 _ => ?_)
        refine rhF.aload_n (pc := 58) dX12_isLawful_58 1 rfl ?_
        refine rhF.get (pc := 59) (rhR _) dX12_isLawful_59 fl_X12_36 h1 rfl ?_
        refine rhF.aload_n (pc := 62) dX12_isLawful_62 1 rfl ?_
        refine rhF.get (pc := 63) (rhI _) dX12_isLawful_63 fl_X12_327 h1 rfl ?_
        refine rhF.ck (fun h11 => ?_)
        refine rhF.ck (fun h12 => ?_)
        refine rhF.iald (pc := 66) dX12_isLawful_66 h11 h12 ?_
        refine rhF.icmp_gt (pc := 67) 84 dX12_isLawful_67 (by decide) (fun h13 => ?_) (fun h13 => ?_)
        · refine rhF.iconst (pc := 84) (v := 0) dX12_isLawful_84 (by decide) ?_
          exact rhF.zret (pc := 85) dX12_isLawful_85 rfl rfl rfl
        · refine rhF.aload_n (pc := 70) dX12_isLawful_70 1 rfl ?_
          refine rhF.iload_n (pc := 71) dX12_isLawful_71 2 rfl ?_
          refine rhF.iload_n (pc := 72) dX12_isLawful_72 3 rfl ?_
          refine rhF.iload_n (pc := 73) dX12_isLawful_73 4 rfl ?_
          refine rhF.callV (pc := 74) (ci := 12) (embc := rhe1I _) [rhI _, rhI _, rhI _] dX12_isLawful_74 ml_X12_449 mv_X12_comes ⟨_, rfl, rfl⟩ h1 (c_X12_comes _ _ _ _ _ _ _) (by decide) (by decide) rfl (Nat.le_of_ble_eq_true rfl) (fun r14 _ => ?_)
          refine rhF.if_eq (pc := 77) 84 dX12_isLawful_77 (by decide) (fun h15 => ?_) (fun h15 => ?_)
          · refine rhF.iconst (pc := 84) (v := 0) dX12_isLawful_84 (by decide) ?_
            exact rhF.zret (pc := 85) dX12_isLawful_85 rfl rfl rfl
          · refine rhF.iconst (pc := 80) (v := 1) dX12_isLawful_80 (by decide) ?_
            refine rhF.goto (pc := 81) 85 dX12_isLawful_81 (by decide) ?_
            exact rhF.zret (pc := 85) dX12_isLawful_85 rfl rfl rfl
theorem c_X12_isLawful (E : rhE) (Γ : rhG) (M : rhM) (v0 : Nat) (v1 : Int32) (v2 : Int32) (v3 : Int32) : ∀ a, f_X12_isLawful Γ M v0 v1 v2 v3 = some a → rhC E 8 yX12_isLawful cX12_isLawful 5 (some .boolean) [rhR v0, rhI v1, rhI v2, rhI v3] Γ M ((rhe1I Γ) a) := rhF.met (by decide +kernel) (Nat.le_of_ble_eq_true rfl) (b_X12_isLawful M v0 v1 v2 v3)
def f_X12_layTried_2 (k31 : rhM → Nat → Int32 → Option (rhM)) (Γ : rhG) : Nat → rhM → Nat → Int32 → Int32 → Option (rhM)
  | 0, _, _, _, _ => none
  | n + 1, M, v0, v1, v2 =>
    if v2 < 8 then
      (rhck (Γ.2.2.1 v0 = 13) <|
      rhck (Γ.2.2.1 (M.2.2 v0 78) = 15) <|
      rhck (0 ≤ ((8 * v1) + v2).toInt ∧ ((8 * v1) + v2).toInt < (Γ.2.2.2 (M.2.2 v0 78) : Nat)) <|
      rhck (Γ.2.2.1 (M.2.2 v0 39) = 15) <|
      rhck (0 ≤ (v2).toInt ∧ (v2).toInt < (Γ.2.2.2 (M.2.2 v0 39) : Nat)) <|
      let M7 := rhsi M (M.2.2 v0 39) (v2 : Int32).toNatClampNeg (M.1 (M.2.2 v0 78) ((8 * v1) + v2).toNatClampNeg)
      let x8 : Int32 := v2 + 1
      f_X12_layTried_2 k31 Γ n M7 v0 v1 x8)
    else
      k31 M v0 v1
def f_X12_layTried_33 (Γ : rhG) : Nat → rhM → Nat → Int32 → Int32 → Option (rhM)
  | 0, _, _, _, _ => none
  | n + 1, M, v0, v1, v2 =>
    if v2 < 5 then
      (rhck (Γ.2.2.1 v0 = 13) <|
      rhck (Γ.2.2.1 (M.2.2 v0 79) = 15) <|
      rhck (0 ≤ ((6 * v1) + v2).toInt ∧ ((6 * v1) + v2).toInt < (Γ.2.2.2 (M.2.2 v0 79) : Nat)) <|
      rhck (Γ.2.2.1 (M.2.2 v0 40) = 15) <|
      rhck (0 ≤ (v2).toInt ∧ (v2).toInt < (Γ.2.2.2 (M.2.2 v0 40) : Nat)) <|
      let M15 := rhsi M (M.2.2 v0 40) (v2 : Int32).toNatClampNeg (M.1 (M.2.2 v0 79) ((6 * v1) + v2).toNatClampNeg)
      let x16 : Int32 := v2 + 1
      f_X12_layTried_33 Γ n M15 v0 v1 x16)
    else
      some M
def f_X12_layTried_31 (Γ : rhG) (M : rhM) (v0 : Nat) (v1 : Int32) : Option (rhM) :=
  f_X12_layTried_33 Γ rhFU M v0 v1 0
def f_X12_layTried (Γ : rhG) (M : rhM) (v0 : Nat) (v1 : Int32) : Option (rhM) :=
  f_X12_layTried_2 (f_X12_layTried_31 Γ) Γ rhFU M v0 v1 0
set_option maxHeartbeats 4000000 in
set_option maxRecDepth 100000 in
theorem b_X12_layTried_2 {E : rhE} {Γ : rhG} {k31 : rhM → Nat → Int32 → Option (rhM)} (hk31 : ∀ (M : rhM) (v0 : Nat) (v1 : Int32), rhF E 1 3 yX12_layTried cX12_layTried none Γ (rhe1U Γ) (k31 M v0 v1) 31 [(0, rhR v0), (1, rhI v1)] [] Γ M) : ∀ (n : Nat) (M : rhM) (v0 : Nat) (v1 : Int32) (v2 : Int32), rhF E 1 3 yX12_layTried cX12_layTried none Γ (rhe1U Γ) (f_X12_layTried_2 k31 Γ n M v0 v1 v2) 2 [(0, rhR v0), (1, rhI v1), (2, rhI v2)] [] Γ M := by
  intro n
  induction n with
  | zero => intro M v0 v1 v2; rw [f_X12_layTried_2]; exact rhF.nope
  | succ n ih =>
    intro M v0 v1 v2
    rw [f_X12_layTried_2]
    refine rhF.iload_n (pc := 2) dX12_layTried_2 2 rfl ?_
    refine rhF.bipush (pc := 3) (v := 8) dX12_layTried_3 (by decide) ?_
    refine rhF.icmp_ge (pc := 5) 31 dX12_layTried_5 (by decide) (fun h1 => ?_) (fun h1 => ?_)
    · refine rhF.aload_n (pc := 8) dX12_layTried_8 0 rfl ?_
      refine rhF.ck (fun h2 => ?_)
      refine rhF.get (pc := 9) (rhR _) dX12_layTried_9 fl_X12_92 h2 rfl ?_
      refine rhF.iload_n (pc := 12) dX12_layTried_12 2 rfl ?_
      refine rhF.aload_n (pc := 13) dX12_layTried_13 0 rfl ?_
      refine rhF.get (pc := 14) (rhR _) dX12_layTried_14 fl_X12_178 h2 rfl ?_
      refine rhF.bipush (pc := 17) (v := 8) dX12_layTried_17 (by decide) ?_
      refine rhF.iload_n (pc := 19) dX12_layTried_19 1 rfl ?_
      refine rhF.imul (pc := 20) dX12_layTried_20 ?_
      refine rhF.iload_n (pc := 21) dX12_layTried_21 2 rfl ?_
      refine rhF.iadd (pc := 22) dX12_layTried_22 ?_
      refine rhF.ck (fun h3 => ?_)
      refine rhF.ck (fun h4 => ?_)
      refine rhF.iald (pc := 23) dX12_layTried_23 h3 h4 ?_
      refine rhF.ck (fun h5 => ?_)
      refine rhF.ck (fun h6 => ?_)
      refine rhF.iast (pc := 24) dX12_layTried_24 h5 h6 ?_
      refine rhF.iinc (pc := 25) (L' := [(2, rhI _), (0, rhR _), (1, rhI _)]) dX12_layTried_25 2 rfl rfl (by decide) rfl ?_
      refine rhF.goto (pc := 28) 2 dX12_layTried_28 (by decide) ?_
      refine rhF.sub [1, 2, 0] rfl ?_
      exact ih _ _ _ _
    · refine rhF.sub [0, 1] rfl ?_
      exact hk31 _ _ _
set_option maxHeartbeats 4000000 in
set_option maxRecDepth 100000 in
theorem b_X12_layTried_33 {E : rhE} {Γ : rhG} : ∀ (n : Nat) (M : rhM) (v0 : Nat) (v1 : Int32) (v2 : Int32), rhF E 1 3 yX12_layTried cX12_layTried none Γ (rhe1U Γ) (f_X12_layTried_33 Γ n M v0 v1 v2) 33 [(0, rhR v0), (1, rhI v1), (2, rhI v2)] [] Γ M := by
  intro n
  induction n with
  | zero => intro M v0 v1 v2; rw [f_X12_layTried_33]; exact rhF.nope
  | succ n ih =>
    intro M v0 v1 v2
    rw [f_X12_layTried_33]
    refine rhF.iload_n (pc := 33) dX12_layTried_33 2 rfl ?_
    refine rhF.iconst (pc := 34) (v := 5) dX12_layTried_34 (by decide) ?_
    refine rhF.icmp_ge (pc := 35) 61 dX12_layTried_35 (by decide) (fun h9 => ?_) (fun h9 => ?_)
    · refine rhF.aload_n (pc := 38) dX12_layTried_38 0 rfl ?_
      refine rhF.ck (fun h10 => ?_)
      refine rhF.get (pc := 39) (rhR _) dX12_layTried_39 fl_X12_95 h10 rfl ?_
      refine rhF.iload_n (pc := 42) dX12_layTried_42 2 rfl ?_
      refine rhF.aload_n (pc := 43) dX12_layTried_43 0 rfl ?_
      refine rhF.get (pc := 44) (rhR _) dX12_layTried_44 fl_X12_181 h10 rfl ?_
      refine rhF.bipush (pc := 47) (v := 6) dX12_layTried_47 (by decide) ?_
      refine rhF.iload_n (pc := 49) dX12_layTried_49 1 rfl ?_
      refine rhF.imul (pc := 50) dX12_layTried_50 ?_
      refine rhF.iload_n (pc := 51) dX12_layTried_51 2 rfl ?_
      refine rhF.iadd (pc := 52) dX12_layTried_52 ?_
      refine rhF.ck (fun h11 => ?_)
      refine rhF.ck (fun h12 => ?_)
      refine rhF.iald (pc := 53) dX12_layTried_53 h11 h12 ?_
      refine rhF.ck (fun h13 => ?_)
      refine rhF.ck (fun h14 => ?_)
      refine rhF.iast (pc := 54) dX12_layTried_54 h13 h14 ?_
      refine rhF.iinc (pc := 55) (L' := [(2, rhI _), (0, rhR _), (1, rhI _)]) dX12_layTried_55 2 rfl rfl (by decide) rfl ?_
      refine rhF.goto (pc := 58) 33 dX12_layTried_58 (by decide) ?_
      refine rhF.sub [1, 2, 0] rfl ?_
      exact ih _ _ _ _
    · exact rhF.vret (pc := 61) dX12_layTried_61 rfl rfl
set_option maxHeartbeats 4000000 in
set_option maxRecDepth 100000 in
theorem b_X12_layTried_31 {E : rhE} {Γ : rhG} : ∀ (M : rhM) (v0 : Nat) (v1 : Int32), rhF E 1 3 yX12_layTried cX12_layTried none Γ (rhe1U Γ) (f_X12_layTried_31 Γ M v0 v1) 31 [(0, rhR v0), (1, rhI v1)] [] Γ M := by
  intro M v0 v1
  rw [f_X12_layTried_31]
  refine rhF.iconst (pc := 31) (v := 0) dX12_layTried_31 (by decide) ?_
  refine rhF.istore_n (pc := 32) (L' := [(2, rhI _), (0, rhR _), (1, rhI _)]) dX12_layTried_32 (by decide) rfl ?_
  refine rhF.sub [1, 2, 0] rfl ?_
  exact (b_X12_layTried_33 rhFU) _ _ _ _
set_option maxHeartbeats 4000000 in
set_option maxRecDepth 100000 in
theorem b_X12_layTried {E : rhE} {Γ : rhG} : ∀ (M : rhM) (v0 : Nat) (v1 : Int32), rhF E 1 3 yX12_layTried cX12_layTried none Γ (rhe1U Γ) (f_X12_layTried Γ M v0 v1) 0 [(0, rhR v0), (1, rhI v1)] [] Γ M := by
  intro M v0 v1
  rw [f_X12_layTried]
  refine rhF.iconst (pc := 0) (v := 0) dX12_layTried_0 (by decide) ?_
  refine rhF.istore_n (pc := 1) (L' := [(2, rhI _), (0, rhR _), (1, rhI _)]) dX12_layTried_1 (by decide) rfl ?_
  refine rhF.sub [1, 2, 0] rfl ?_
  exact (b_X12_layTried_2 (b_X12_layTried_31) rhFU) _ _ _ _
theorem c_X12_layTried (E : rhE) (Γ : rhG) (M : rhM) (v0 : Nat) (v1 : Int32) : ∀ a, f_X12_layTried Γ M v0 v1 = some a → rhC E 1 yX12_layTried cX12_layTried 3 none [rhR v0, rhI v1] Γ M ((rhe1U Γ) a) := rhF.met (by decide +kernel) (Nat.le_of_ble_eq_true rfl) (b_X12_layTried M v0 v1)
def f_X12_nextPull_9 (Γ : rhG) : Nat → rhM → Nat → Int32 → Option (Int32 × rhM)
  | 0, _, _, _ => none
  | n + 1, M, v0, v3 =>
    if v3 < 500 then
      (rhck (Γ.2.2.1 v0 = 13) <|
      (f_X12_isLawful Γ M v0 (v3 / 100) ((v3 / 10) - (v3 / 10) / 10 * 10) (v3 - v3 / 10 * 10)).bind fun r6 =>
      if r6.1 = 0 then
        (let x8 : Int32 := v3 + 1
        f_X12_nextPull_9 Γ n r6.2 v0 x8)
      else
        some ((v3, r6.2)))
    else
      some (((-1), M))
def f_X12_nextPull (Γ : rhG) (M : rhM) (v0 : Nat) (v1 : Int32) (v2 : Int32) : Option (Int32 × rhM) :=
  rhck (Γ.2.2.1 v0 = 13) <|
  (f_X12_layTried Γ M v0 v1).bind fun r2 =>
  let x3 := v2 + 1
  f_X12_nextPull_9 Γ rhFU r2 v0 x3
set_option maxHeartbeats 4000000 in
set_option maxRecDepth 100000 in
theorem b_X12_nextPull_9 {E : rhE} {Γ : rhG} : ∀ (n : Nat) (M : rhM) (v0 : Nat) (v3 : Int32), rhF E 9 4 yX12_nextPull cX12_nextPull (some .int) Γ (rhe1I Γ) (f_X12_nextPull_9 Γ n M v0 v3) 9 [(0, rhR v0), (3, rhI v3)] [] Γ M := by
  intro n
  induction n with
  | zero => intro M v0 v3; rw [f_X12_nextPull_9]; exact rhF.nope
  | succ n ih =>
    intro M v0 v3
    rw [f_X12_nextPull_9]
    refine rhF.iload_n (pc := 9) dX12_nextPull_9 1 rfl ?_
    refine rhF.sipush (pc := 10) (v := 500) dX12_nextPull_10 (by decide) ?_
    refine rhF.icmp_ge (pc := 13) 46 dX12_nextPull_13 (by decide) (fun h4 => ?_) (fun h4 => ?_)
    · refine rhF.aload_n (pc := 16) dX12_nextPull_16 0 rfl ?_
      refine rhF.iload_n (pc := 17) dX12_nextPull_17 1 rfl ?_
      refine rhF.bipush (pc := 18) (v := 100) dX12_nextPull_18 (by decide) ?_
      refine rhF.idivc (pc := 20) dX12_nextPull_20 (by decide) ?_
      refine rhF.iload_n (pc := 21) dX12_nextPull_21 1 rfl ?_
      refine rhF.bipush (pc := 22) (v := 10) dX12_nextPull_22 (by decide) ?_
      refine rhF.idivc (pc := 24) dX12_nextPull_24 (by decide) ?_
      refine rhF.bipush (pc := 25) (v := 10) dX12_nextPull_25 (by decide) ?_
      refine rhF.iremc (pc := 27) dX12_nextPull_27 (by decide) ?_
      refine rhF.iload_n (pc := 28) dX12_nextPull_28 1 rfl ?_
      refine rhF.bipush (pc := 29) (v := 10) dX12_nextPull_29 (by decide) ?_
      refine rhF.iremc (pc := 31) dX12_nextPull_31 (by decide) ?_
      refine rhF.ck (fun h5 => ?_)
      refine rhF.callV (pc := 32) (ci := 12) (embc := rhe1I _) [rhI _, rhI _, rhI _] dX12_nextPull_32 ml_X12_471 mv_X12_isLawful ⟨_, rfl, rfl⟩ h5 (c_X12_isLawful _ _ _ _ _ _ _) (by decide) (by decide) rfl (Nat.le_of_ble_eq_true rfl) (fun r6 _ => ?_)
      refine rhF.if_eq (pc := 35) 40 dX12_nextPull_35 (by decide) (fun h7 => ?_) (fun h7 => ?_)
      · refine rhF.iinc (pc := 40) (L' := [(3, rhI _), (0, rhR _)]) dX12_nextPull_40 1 rfl rfl (by decide) rfl ?_
        refine rhF.goto (pc := 43) 9 dX12_nextPull_43 (by decide) ?_
        refine rhF.sub [1, 0] rfl ?_
        exact ih _ _ _
      · refine rhF.iload_n (pc := 38) dX12_nextPull_38 1 rfl ?_
        exact rhF.zret (pc := 39) dX12_nextPull_39 rfl rfl rfl
    · refine rhF.iconst (pc := 46) (v := (-1)) dX12_nextPull_46 (by decide) ?_
      exact rhF.zret (pc := 47) dX12_nextPull_47 rfl rfl rfl
set_option maxHeartbeats 4000000 in
set_option maxRecDepth 100000 in
theorem b_X12_nextPull {E : rhE} {Γ : rhG} : ∀ (M : rhM) (v0 : Nat) (v1 : Int32) (v2 : Int32), rhF E 9 4 yX12_nextPull cX12_nextPull (some .int) Γ (rhe1I Γ) (f_X12_nextPull Γ M v0 v1 v2) 0 [(0, rhR v0), (1, rhI v1), (2, rhI v2)] [] Γ M := by
  intro M v0 v1 v2
  rw [f_X12_nextPull]
  refine rhF.aload_n (pc := 0) dX12_nextPull_0 0 rfl ?_
  refine rhF.iload_n (pc := 1) dX12_nextPull_1 1 rfl ?_
  refine rhF.ck (fun h1 => ?_)
  refine rhF.callV (pc := 2) (ci := 12) (embc := rhe1U _) [rhI _] dX12_nextPull_2 ml_X12_562 mv_X12_layTried ⟨_, rfl, rfl⟩ h1 (c_X12_layTried _ _ _ _ _) (by decide) (by decide) rfl (Nat.le_of_ble_eq_true rfl) (fun r2 _ => ?_)
  refine rhF.iload_n (pc := 5) dX12_nextPull_5 2 rfl ?_
  refine rhF.iconst (pc := 6) (v := 1) dX12_nextPull_6 (by decide) ?_
  refine rhF.iadd (pc := 7) dX12_nextPull_7 ?_
  refine rhF.istore_n (pc := 8) (L' := [(3, rhI _), (0, rhR _), (1, rhI _), (2, rhI _)]) dX12_nextPull_8 (by decide) rfl ?_
  refine rhF.sub [1, 0] rfl ?_
  exact (b_X12_nextPull_9 rhFU) _ _ _
theorem c_X12_nextPull (E : rhE) (Γ : rhG) (M : rhM) (v0 : Nat) (v1 : Int32) (v2 : Int32) : ∀ a, f_X12_nextPull Γ M v0 v1 v2 = some a → rhC E 9 yX12_nextPull cX12_nextPull 4 (some .int) [rhR v0, rhI v1, rhI v2] Γ M ((rhe1I Γ) a) := rhF.met (by decide +kernel) (Nat.le_of_ble_eq_true rfl) (b_X12_nextPull M v0 v1 v2)
def f_X12_rowsOf_2 (k21 : rhM → Nat → Int32 → Int32 → Option (Int32 × rhM)) (Γ : rhG) : Nat → rhM → Nat → Int32 → Int32 → Int32 → Option (Int32 × rhM)
  | 0, _, _, _, _, _ => none
  | n + 1, M, v0, v1, v2, v3 =>
    if v3 < 8 then
      (rhck (Γ.2.2.1 v0 = 13) <|
      rhck (Γ.2.2.1 (M.2.2 v0 77) = 15) <|
      rhck (0 ≤ (v3).toInt ∧ (v3).toInt < (Γ.2.2.2 (M.2.2 v0 77) : Nat)) <|
      let M5 := rhsi M (M.2.2 v0 77) (v3 : Int32).toNatClampNeg 0
      let x6 : Int32 := v3 + 1
      f_X12_rowsOf_2 k21 Γ n M5 v0 v1 v2 x6)
    else
      k21 M v0 v1 v2
def f_X12_rowsOf_62 (Γ : rhG) : Nat → rhM → Nat → Int32 → Int32 → Int32 → Int32 → Option (Int32 × rhM)
  | 0, _, _, _, _, _, _ => none
  | n + 1, M, v0, v1, v2, v3, v4 =>
    if v4 < 0 then
      (some ((v3, M)))
    else
      rhck (Γ.2.2.1 v0 = 13) <|
      rhck (Γ.2.2.1 (M.2.2 v0 80) = 15) <|
      rhck (0 ≤ (v4).toInt ∧ (v4).toInt < (Γ.2.2.2 (M.2.2 v0 80) : Nat)) <|
      (f_X12_nextPull Γ M v0 v4 (M.1 (M.2.2 v0 80) v4.toNatClampNeg)).bind fun r21 =>
      let M22 := rhsi r21.2 (M.2.2 v0 80) (v4 : Int32).toNatClampNeg r21.1
      rhck (Γ.2.2.1 (r21.2.2.2 v0 80) = 15) <|
      rhck (0 ≤ (v4).toInt ∧ (v4).toInt < (Γ.2.2.2 (r21.2.2.2 v0 80) : Nat)) <|
      if (M22.1 (r21.2.2.2 v0 80) v4.toNatClampNeg) < 0 then
        (let x26 : Int32 := v4 + (-1)
        f_X12_rowsOf_62 Γ n M22 v0 v1 v2 v3 x26)
      else
        (f_X12_moves Γ M22 v0 ((M22.1 (r21.2.2.2 v0 80) v4.toNatClampNeg) / 100) (((M22.1 (r21.2.2.2 v0 80) v4.toNatClampNeg) / 10) - ((M22.1 (r21.2.2.2 v0 80) v4.toNatClampNeg) / 10) / 10 * 10) ((M22.1 (r21.2.2.2 v0 80) v4.toNatClampNeg) - (M22.1 (r21.2.2.2 v0 80) v4.toNatClampNeg) / 10 * 10)).bind fun r27 =>
        (f_X12_isSo Γ r27 v0 (v4 + 1) v2).bind fun r28 =>
        if r28 = 0 then
          (f_X12_rowsOf_62 Γ n r27 v0 v1 v2 v3 v4)
        else
          if (v4 + 1) = v1 then
            ((f_X12_meets Γ r27 v0).bind fun r31 =>
            let x32 := v3 + r31.1
            f_X12_rowsOf_62 Γ n r31.2 v0 v1 v2 x32 v4)
          else
            let x33 : Int32 := v4 + 1
            (f_X12_keepTried Γ r27 v0 x33).bind fun r34 =>
            rhck (Γ.2.2.1 (r34.2.2 v0 80) = 15) <|
            rhck (0 ≤ (x33).toInt ∧ (x33).toInt < (Γ.2.2.2 (r34.2.2 v0 80) : Nat)) <|
            let M37 := rhsi r34 (r34.2.2 v0 80) (x33 : Int32).toNatClampNeg ((-1))
            f_X12_rowsOf_62 Γ n M37 v0 v1 v2 v3 x33
def f_X12_rowsOf_21 (Γ : rhG) (M : rhM) (v0 : Nat) (v1 : Int32) (v2 : Int32) : Option (Int32 × rhM) :=
  rhck (Γ.2.2.1 v0 = 13) <|
  (f_X12_layFirst Γ M v0).bind fun r8 =>
  (f_X12_keepTried Γ r8 v0 (0 : Int32)).bind fun r9 =>
  (f_X12_isSo Γ r9 v0 (0 : Int32) v2).bind fun r10 =>
  if r10 = 0 then
    (some ((0, r9)))
  else
    if v1 = 0 then
      ((f_X12_meets Γ r9 v0).bind fun r13 =>
      some ((r13.1, r13.2)))
    else
      rhck (Γ.2.2.1 (r9.2.2 v0 80) = 15) <|
      rhck (0 ≤ (0 : Int32).toInt ∧ (0 : Int32).toInt < (Γ.2.2.2 (r9.2.2 v0 80) : Nat)) <|
      let M16 := rhsi r9 (r9.2.2 v0 80) (0 : Int32).toNatClampNeg ((-1))
      f_X12_rowsOf_62 Γ rhFU M16 v0 v1 v2 0 0
def f_X12_rowsOf (Γ : rhG) (M : rhM) (v0 : Nat) (v1 : Int32) (v2 : Int32) : Option (Int32 × rhM) :=
  f_X12_rowsOf_2 (f_X12_rowsOf_21 Γ) Γ rhFU M v0 v1 v2 0
set_option maxHeartbeats 4000000 in
set_option maxRecDepth 100000 in
theorem b_X12_rowsOf_2 {E : rhE} {Γ : rhG} {k21 : rhM → Nat → Int32 → Int32 → Option (Int32 × rhM)} (hk21 : ∀ (M : rhM) (v0 : Nat) (v1 : Int32) (v2 : Int32), rhF E 10 5 yX12_rowsOf cX12_rowsOf (some .int) Γ (rhe1I Γ) (k21 M v0 v1 v2) 21 [(0, rhR v0), (1, rhI v1), (2, rhI v2)] [] Γ M) : ∀ (n : Nat) (M : rhM) (v0 : Nat) (v1 : Int32) (v2 : Int32) (v3 : Int32), rhF E 10 5 yX12_rowsOf cX12_rowsOf (some .int) Γ (rhe1I Γ) (f_X12_rowsOf_2 k21 Γ n M v0 v1 v2 v3) 2 [(0, rhR v0), (1, rhI v1), (2, rhI v2), (3, rhI v3)] [] Γ M := by
  intro n
  induction n with
  | zero => intro M v0 v1 v2 v3; rw [f_X12_rowsOf_2]; exact rhF.nope
  | succ n ih =>
    intro M v0 v1 v2 v3
    rw [f_X12_rowsOf_2]
    refine rhF.iload_n (pc := 2) dX12_rowsOf_2 3 rfl ?_
    refine rhF.bipush (pc := 3) (v := 8) dX12_rowsOf_3 (by decide) ?_
    refine rhF.icmp_ge (pc := 5) 21 dX12_rowsOf_5 (by decide) (fun h1 => ?_) (fun h1 => ?_)
    · refine rhF.aload_n (pc := 8) dX12_rowsOf_8 0 rfl ?_
      refine rhF.ck (fun h2 => ?_)
      refine rhF.get (pc := 9) (rhR _) dX12_rowsOf_9 fl_X12_175 h2 rfl ?_
      refine rhF.iload_n (pc := 12) dX12_rowsOf_12 3 rfl ?_
      refine rhF.iconst (pc := 13) (v := 0) dX12_rowsOf_13 (by decide) ?_
      refine rhF.ck (fun h3 => ?_)
      refine rhF.ck (fun h4 => ?_)
      refine rhF.iast (pc := 14) dX12_rowsOf_14 h3 h4 ?_
      refine rhF.iinc (pc := 15) (L' := [(3, rhI _), (0, rhR _), (1, rhI _), (2, rhI _)]) dX12_rowsOf_15 3 rfl rfl (by decide) rfl ?_
      refine rhF.goto (pc := 18) 2 dX12_rowsOf_18 (by decide) ?_
      refine rhF.sub [1, 2, 3, 0] rfl ?_
      exact ih _ _ _ _ _
    · refine rhF.sub [0, 1, 2] rfl ?_
      exact hk21 _ _ _ _
set_option maxHeartbeats 4000000 in
set_option maxRecDepth 100000 in
theorem b_X12_rowsOf_62 {E : rhE} {Γ : rhG} : ∀ (n : Nat) (M : rhM) (v0 : Nat) (v1 : Int32) (v2 : Int32) (v3 : Int32) (v4 : Int32), rhF E 10 5 yX12_rowsOf cX12_rowsOf (some .int) Γ (rhe1I Γ) (f_X12_rowsOf_62 Γ n M v0 v1 v2 v3 v4) 62 [(0, rhR v0), (1, rhI v1), (2, rhI v2), (3, rhI v3), (4, rhI v4)] [] Γ M := by
  intro n
  induction n with
  | zero => intro M v0 v1 v2 v3 v4; rw [f_X12_rowsOf_62]; exact rhF.nope
  | succ n ih =>
    intro M v0 v1 v2 v3 v4
    rw [f_X12_rowsOf_62]
    refine rhF.iload (pc := 62) dX12_rowsOf_62 4 rfl ?_
    refine rhF.if_lt (pc := 64) 193 dX12_rowsOf_64 (by decide) (fun h17 => ?_) (fun h17 => ?_)
    · refine rhF.iload_n (pc := 193) dX12_rowsOf_193 3 rfl ?_
      exact rhF.zret (pc := 194) dX12_rowsOf_194 rfl rfl rfl
    · refine rhF.aload_n (pc := 67) dX12_rowsOf_67 0 rfl ?_
      refine rhF.ck (fun h18 => ?_)
      refine rhF.get (pc := 68) (rhR _) dX12_rowsOf_68 fl_X12_184 h18 rfl ?_
      refine rhF.iload (pc := 71) dX12_rowsOf_71 4 rfl ?_
      refine rhF.aload_n (pc := 73) dX12_rowsOf_73 0 rfl ?_
      refine rhF.iload (pc := 74) dX12_rowsOf_74 4 rfl ?_
      refine rhF.aload_n (pc := 76) dX12_rowsOf_76 0 rfl ?_
      refine rhF.get (pc := 77) (rhR _) dX12_rowsOf_77 fl_X12_184 h18 rfl ?_
      refine rhF.iload (pc := 80) dX12_rowsOf_80 4 rfl ?_
      refine rhF.ck (fun h19 => ?_)
      refine rhF.ck (fun h20 => ?_)
      refine rhF.iald (pc := 82) dX12_rowsOf_82 h19 h20 ?_
      refine rhF.callV (pc := 83) (ci := 12) (embc := rhe1I _) [rhI _, rhI _] dX12_rowsOf_83 ml_X12_574 mv_X12_nextPull ⟨_, rfl, rfl⟩ h18 (c_X12_nextPull _ _ _ _ _ _) (by decide) (by decide) rfl (Nat.le_of_ble_eq_true rfl) (fun r21 _ => ?_)
      refine rhF.iast (pc := 86) dX12_rowsOf_86 h19 h20 ?_
      refine rhF.aload_n (pc := 87) dX12_rowsOf_87 0 rfl ?_
      refine rhF.get (pc := 88) (rhR _) dX12_rowsOf_88 fl_X12_184 h18 rfl ?_
      refine rhF.iload (pc := 91) dX12_rowsOf_91 4 rfl ?_
      refine rhF.ck (fun h23 => ?_)
      refine rhF.ck (fun h24 => ?_)
      refine rhF.iald (pc := 93) dX12_rowsOf_93 h23 h24 ?_
      refine rhF.if_ge (pc := 94) 103 dX12_rowsOf_94 (by decide) (fun h25 => ?_) (fun h25 => ?_)
      · refine rhF.iinc (pc := 97) (L' := [(4, rhI _), (0, rhR _), (1, rhI _), (2, rhI _), (3, rhI _)]) dX12_rowsOf_97 4 rfl rfl (by decide) rfl ?_
        refine rhF.goto (pc := 100) 62 dX12_rowsOf_100 (by decide) ?_
        refine rhF.sub [1, 2, 3, 4, 0] rfl ?_
        exact ih _ _ _ _ _ _
      · refine rhF.aload_n (pc := 103) dX12_rowsOf_103 0 rfl ?_
        refine rhF.aload_n (pc := 104) dX12_rowsOf_104 0 rfl ?_
        refine rhF.get (pc := 105) (rhR _) dX12_rowsOf_105 fl_X12_184 h18 rfl ?_
        refine rhF.iload (pc := 108) dX12_rowsOf_108 4 rfl ?_
        refine rhF.iald (pc := 110) dX12_rowsOf_110 h23 h24 ?_
        refine rhF.bipush (pc := 111) (v := 100) dX12_rowsOf_111 (by decide) ?_
        refine rhF.idivc (pc := 113) dX12_rowsOf_113 (by decide) ?_
        refine rhF.aload_n (pc := 114) dX12_rowsOf_114 0 rfl ?_
        refine rhF.get (pc := 115) (rhR _) dX12_rowsOf_115 fl_X12_184 h18 rfl ?_
        refine rhF.iload (pc := 118) dX12_rowsOf_118 4 rfl ?_
        refine rhF.iald (pc := 120) dX12_rowsOf_120 h23 h24 ?_
        refine rhF.bipush (pc := 121) (v := 10) dX12_rowsOf_121 (by decide) ?_
        refine rhF.idivc (pc := 123) dX12_rowsOf_123 (by decide) ?_
        refine rhF.bipush (pc := 124) (v := 10) dX12_rowsOf_124 (by decide) ?_
        refine rhF.iremc (pc := 126) dX12_rowsOf_126 (by decide) ?_
        refine rhF.aload_n (pc := 127) dX12_rowsOf_127 0 rfl ?_
        refine rhF.get (pc := 128) (rhR _) dX12_rowsOf_128 fl_X12_184 h18 rfl ?_
        refine rhF.iload (pc := 131) dX12_rowsOf_131 4 rfl ?_
        refine rhF.iald (pc := 133) dX12_rowsOf_133 h23 h24 ?_
        refine rhF.bipush (pc := 134) (v := 10) dX12_rowsOf_134 (by decide) ?_
        refine rhF.iremc (pc := 136) dX12_rowsOf_136 (by decide) ?_
        refine rhF.callV (pc := 137) (ci := 12) (embc := rhe1U _) [rhI _, rhI _, rhI _] dX12_rowsOf_137 ml_X12_474 mv_X12_moves ⟨_, rfl, rfl⟩ h18 (c_X12_moves _ _ _ _ _ _ _) (by decide) (by decide) rfl (Nat.le_of_ble_eq_true rfl) (fun r27 _ => ?_)
        refine rhF.aload_n (pc := 140) dX12_rowsOf_140 0 rfl ?_
        refine rhF.iload (pc := 141) dX12_rowsOf_141 4 rfl ?_
        refine rhF.iconst (pc := 143) (v := 1) dX12_rowsOf_143 (by decide) ?_
        refine rhF.iadd (pc := 144) dX12_rowsOf_144 ?_
        refine rhF.iload_n (pc := 145) dX12_rowsOf_145 2 rfl ?_
        refine rhF.callV (pc := 146) (ci := 12) (embc := rhe0I _ _) [rhI _, rhI _] dX12_rowsOf_146 ml_X12_568 mv_X12_isSo ⟨_, rfl, rfl⟩ h18 (c_X12_isSo _ _ _ _ _ _) (by decide) (by decide) rfl (Nat.le_of_ble_eq_true rfl) (fun r28 _ => ?_)
        refine rhF.if_ne (pc := 149) 155 dX12_rowsOf_149 (by decide) (fun h29 => ?_) (fun h29 => ?_)
        · refine rhF.goto (pc := 152) 62 dX12_rowsOf_152 (by decide) ?_
          exact ih _ _ _ _ _ _
        · refine rhF.iload (pc := 155) dX12_rowsOf_155 4 rfl ?_
          refine rhF.iconst (pc := 157) (v := 1) dX12_rowsOf_157 (by decide) ?_
          refine rhF.iadd (pc := 158) dX12_rowsOf_158 ?_
          refine rhF.iload_n (pc := 159) dX12_rowsOf_159 1 rfl ?_
          refine rhF.icmp_ne (pc := 160) 173 dX12_rowsOf_160 (by decide) (fun h30 => ?_) (fun h30 => ?_)
          · refine rhF.iload_n (pc := 163) dX12_rowsOf_163 3 rfl ?_
            refine rhF.aload_n (pc := 164) dX12_rowsOf_164 0 rfl ?_
            refine rhF.callV (pc := 165) (ci := 12) (embc := rhe1I _) [] dX12_rowsOf_165 ml_X12_571 mv_X12_meets ⟨_, rfl, rfl⟩ h18 (c_X12_meets _ _ _ _) (by decide) (by decide) rfl (Nat.le_of_ble_eq_true rfl) (fun r31 _ => ?_)
            refine rhF.iadd (pc := 168) dX12_rowsOf_168 ?_
            refine rhF.istore_n (pc := 169) (L' := [(3, rhI _), (0, rhR _), (1, rhI _), (2, rhI _), (4, rhI _)]) dX12_rowsOf_169 (by decide) rfl ?_
            refine rhF.goto (pc := 170) 62 dX12_rowsOf_170 (by decide) ?_
            refine rhF.sub [1, 2, 3, 0, 4] rfl ?_
            exact ih _ _ _ _ _ _
          · refine rhF.iinc (pc := 173) (L' := [(4, rhI _), (0, rhR _), (1, rhI _), (2, rhI _), (3, rhI _)]) dX12_rowsOf_173 4 rfl rfl (by decide) rfl ?_
            refine rhF.aload_n (pc := 176) dX12_rowsOf_176 1 rfl ?_
            refine rhF.iload (pc := 177) dX12_rowsOf_177 0 rfl ?_
            refine rhF.callV (pc := 179) (ci := 12) (embc := rhe1U _) [rhI _] dX12_rowsOf_179 ml_X12_565 mv_X12_keepTried ⟨_, rfl, rfl⟩ h18 (c_X12_keepTried _ _ _ _ _) (by decide) (by decide) rfl (Nat.le_of_ble_eq_true rfl) (fun r34 _ => ?_)
            refine rhF.aload_n (pc := 182) dX12_rowsOf_182 1 rfl ?_
            refine rhF.get (pc := 183) (rhR _) dX12_rowsOf_183 fl_X12_184 h18 rfl ?_
            refine rhF.iload (pc := 186) dX12_rowsOf_186 0 rfl ?_
            refine rhF.iconst (pc := 188) (v := (-1)) dX12_rowsOf_188 (by decide) ?_
            refine rhF.ck (fun h35 => ?_)
            refine rhF.ck (fun h36 => ?_)
            refine rhF.iast (pc := 189) dX12_rowsOf_189 h35 h36 ?_
            refine rhF.goto (pc := 190) 62 dX12_rowsOf_190 (by decide) ?_
            refine rhF.sub [1, 2, 3, 4, 0] rfl ?_
            exact ih _ _ _ _ _ _
set_option maxHeartbeats 4000000 in
set_option maxRecDepth 100000 in
theorem b_X12_rowsOf_21 {E : rhE} {Γ : rhG} : ∀ (M : rhM) (v0 : Nat) (v1 : Int32) (v2 : Int32), rhF E 10 5 yX12_rowsOf cX12_rowsOf (some .int) Γ (rhe1I Γ) (f_X12_rowsOf_21 Γ M v0 v1 v2) 21 [(0, rhR v0), (1, rhI v1), (2, rhI v2)] [] Γ M := by
  intro M v0 v1 v2
  rw [f_X12_rowsOf_21]
  refine rhF.aload_n (pc := 21) dX12_rowsOf_21 0 rfl ?_
  refine rhF.ck (fun h7 => ?_)
  refine rhF.callV (pc := 22) (ci := 12) (embc := rhe1U _) [] dX12_rowsOf_22 ml_X12_452 mv_X12_layFirst ⟨_, rfl, rfl⟩ h7 (c_X12_layFirst _ _ _ _) (by decide) (by decide) rfl (Nat.le_of_ble_eq_true rfl) (fun r8 _ => ?_)
  refine rhF.aload_n (pc := 25) dX12_rowsOf_25 0 rfl ?_
  refine rhF.iconst (pc := 26) (v := 0) dX12_rowsOf_26 (by decide) ?_
  refine rhF.callV (pc := 27) (ci := 12) (embc := rhe1U _) [rhI _] dX12_rowsOf_27 ml_X12_565 mv_X12_keepTried ⟨_, rfl, rfl⟩ h7 (c_X12_keepTried _ _ _ _ _) (by decide) (by decide) rfl (Nat.le_of_ble_eq_true rfl) (fun r9 _ => ?_)
  refine rhF.aload_n (pc := 30) dX12_rowsOf_30 0 rfl ?_
  refine rhF.iconst (pc := 31) (v := 0) dX12_rowsOf_31 (by decide) ?_
  refine rhF.iload_n (pc := 32) dX12_rowsOf_32 2 rfl ?_
  refine rhF.callV (pc := 33) (ci := 12) (embc := rhe0I _ _) [rhI _, rhI _] dX12_rowsOf_33 ml_X12_568 mv_X12_isSo ⟨_, rfl, rfl⟩ h7 (c_X12_isSo _ _ _ _ _ _) (by decide) (by decide) rfl (Nat.le_of_ble_eq_true rfl) (fun r10 _ => ?_)
  refine rhF.if_ne (pc := 36) 41 dX12_rowsOf_36 (by decide) (fun h11 => ?_) (fun h11 => ?_)
  · refine rhF.iconst (pc := 39) (v := 0) dX12_rowsOf_39 (by decide) ?_
    exact rhF.zret (pc := 40) dX12_rowsOf_40 rfl rfl rfl
  · refine rhF.iload_n (pc := 41) dX12_rowsOf_41 1 rfl ?_
    refine rhF.if_ne (pc := 42) 50 dX12_rowsOf_42 (by decide) (fun h12 => ?_) (fun h12 => ?_)
    · refine rhF.aload_n (pc := 45) dX12_rowsOf_45 0 rfl ?_
      refine rhF.callV (pc := 46) (ci := 12) (embc := rhe1I _) [] dX12_rowsOf_46 ml_X12_571 mv_X12_meets ⟨_, rfl, rfl⟩ h7 (c_X12_meets _ _ _ _) (by decide) (by decide) rfl (Nat.le_of_ble_eq_true rfl) (fun r13 _ => ?_)
      exact rhF.zret (pc := 49) dX12_rowsOf_49 rfl rfl rfl
    · refine rhF.iconst (pc := 50) (v := 0) dX12_rowsOf_50 (by decide) ?_
      refine rhF.istore_n (pc := 51) (L' := [(3, rhI _), (0, rhR _), (1, rhI _), (2, rhI _)]) dX12_rowsOf_51 (by decide) rfl ?_
      refine rhF.iconst (pc := 52) (v := 0) dX12_rowsOf_52 (by decide) ?_
      refine rhF.istore (pc := 53) (L' := [(4, rhI _), (3, rhI _), (0, rhR _), (1, rhI _), (2, rhI _)]) dX12_rowsOf_53 (by decide) rfl ?_
      refine rhF.aload_n (pc := 55) dX12_rowsOf_55 2 rfl ?_
      refine rhF.get (pc := 56) (rhR _) dX12_rowsOf_56 fl_X12_184 h7 rfl ?_
      refine rhF.iconst (pc := 59) (v := 0) dX12_rowsOf_59 (by decide) ?_
      refine rhF.iconst (pc := 60) (v := (-1)) dX12_rowsOf_60 (by decide) ?_
      refine rhF.ck (fun h14 => ?_)
      refine rhF.ck (fun h15 => ?_)
      refine rhF.iast (pc := 61) dX12_rowsOf_61 h14 h15 ?_
      refine rhF.sub [2, 3, 4, 1, 0] rfl ?_
      exact (b_X12_rowsOf_62 rhFU) _ _ _ _ _ _
set_option maxHeartbeats 4000000 in
set_option maxRecDepth 100000 in
theorem b_X12_rowsOf {E : rhE} {Γ : rhG} : ∀ (M : rhM) (v0 : Nat) (v1 : Int32) (v2 : Int32), rhF E 10 5 yX12_rowsOf cX12_rowsOf (some .int) Γ (rhe1I Γ) (f_X12_rowsOf Γ M v0 v1 v2) 0 [(0, rhR v0), (1, rhI v1), (2, rhI v2)] [] Γ M := by
  intro M v0 v1 v2
  rw [f_X12_rowsOf]
  refine rhF.iconst (pc := 0) (v := 0) dX12_rowsOf_0 (by decide) ?_
  refine rhF.istore_n (pc := 1) (L' := [(3, rhI _), (0, rhR _), (1, rhI _), (2, rhI _)]) dX12_rowsOf_1 (by decide) rfl ?_
  refine rhF.sub [1, 2, 3, 0] rfl ?_
  exact (b_X12_rowsOf_2 (b_X12_rowsOf_21) rhFU) _ _ _ _ _
theorem c_X12_rowsOf (E : rhE) (Γ : rhG) (M : rhM) (v0 : Nat) (v1 : Int32) (v2 : Int32) : ∀ a, f_X12_rowsOf Γ M v0 v1 v2 = some a → rhC E 10 yX12_rowsOf cX12_rowsOf 5 (some .int) [rhR v0, rhI v1, rhI v2] Γ M ((rhe1I Γ) a) := rhF.met (by decide +kernel) (Nat.le_of_ble_eq_true rfl) (b_X12_rowsOf M v0 v1 v2)
def f_X12_can (Γ : rhG) (M : rhM) (v0 : Nat) (v1 : Int32) (v2 : Int32) (v3 : Int32) : Option (Int32 × rhM) :=
  rhck (Γ.2.2.1 v0 = 13) <|
  (f_X12_isHouse Γ M v0 v1).bind fun r2 =>
  if r2 = 0 then
    (some (((-1), M)))
  else
    (f_X12_isIn Γ M v2 (0 : Int32) (3 : Int32)).bind fun r4 =>
    if r4 = 0 then
      (some (((-1), M)))
    else
      (f_X12_rowsOf Γ M v0 v2 v3).bind fun r6 =>
      rhck (Γ.2.2.1 (r6.2.2.2 v0 77) = 15) <|
      rhck (0 ≤ (v1).toInt ∧ (v1).toInt < (Γ.2.2.2 (r6.2.2.2 v0 77) : Nat)) <|
      some ((r6.2.1 (r6.2.2.2 v0 77) v1.toNatClampNeg, r6.2))
set_option maxHeartbeats 4000000 in
set_option maxRecDepth 100000 in
theorem b_X12_can {E : rhE} {Γ : rhG} : ∀ (M : rhM) (v0 : Nat) (v1 : Int32) (v2 : Int32) (v3 : Int32), rhF E 11 4 yX12_can cX12_can (some .int) Γ (rhe1I Γ) (f_X12_can Γ M v0 v1 v2 v3) 0 [(0, rhR v0), (1, rhI v1), (2, rhI v2), (3, rhI v3)] [] Γ M := by
  intro M v0 v1 v2 v3
  rw [f_X12_can]
  refine rhF.aload_n (pc := 0) dX12_can_0 0 rfl ?_
  refine rhF.iload_n (pc := 1) dX12_can_1 1 rfl ?_
  refine rhF.ck (fun h1 => ?_)
  refine rhF.callV (pc := 2) (ci := 12) (embc := rhe0I _ _) [rhI _] dX12_can_2 ml_X12_464 mv_X12_isHouse ⟨_, rfl, rfl⟩ h1 (c_X12_isHouse _ _ _ _ _) (by decide) (by decide) rfl (Nat.le_of_ble_eq_true rfl) (fun r2 _ => ?_)
  refine rhF.if_eq (pc := 5) 17 dX12_can_5 (by decide) (fun h3 => ?_) (fun h3 => ?_)
  · refine rhF.iconst (pc := 17) (v := (-1)) dX12_can_17 (by decide) ?_
    exact rhF.zret (pc := 18) dX12_can_18 rfl rfl rfl
  · refine rhF.iload_n (pc := 8) dX12_can_8 2 rfl ?_
    refine rhF.iconst (pc := 9) (v := 0) dX12_can_9 (by decide) ?_
    refine rhF.iconst (pc := 10) (v := 3) dX12_can_10 (by decide) ?_
    refine rhF.callS (pc := 11) (embc := rhe0I _ _) [rhI _, rhI _, rhI _] dX12_can_11 ml_X12_415 ms_X12_isIn (c_X12_isIn _ _ _ _ _ _) (by decide) (by decide) rfl (Nat.le_of_ble_eq_true rfl) (fun r4 _ => ?_)
    refine rhF.if_ne (pc := 14) 19 dX12_can_14 (by decide) (fun h5 => ?_) (fun h5 => ?_)
    · refine rhF.iconst (pc := 17) (v := (-1)) dX12_can_17 (by decide) ?_
      exact rhF.zret (pc := 18) dX12_can_18 rfl rfl rfl
    · refine rhF.aload_n (pc := 19) dX12_can_19 0 rfl ?_
      refine rhF.iload_n (pc := 20) dX12_can_20 2 rfl ?_
      refine rhF.iload_n (pc := 21) dX12_can_21 3 rfl ?_
      refine rhF.callV (pc := 22) (ci := 12) (embc := rhe1I _) [rhI _, rhI _] dX12_can_22 ml_X12_577 mv_X12_rowsOf ⟨_, rfl, rfl⟩ h1 (c_X12_rowsOf _ _ _ _ _ _) (by decide) (by decide) rfl (Nat.le_of_ble_eq_true rfl) (fun r6 _ => ?_)
      refine rhF.pop (pc := 25) dX12_can_25 ?_
      refine rhF.aload_n (pc := 26) dX12_can_26 0 rfl ?_
      refine rhF.get (pc := 27) (rhR _) dX12_can_27 fl_X12_175 h1 rfl ?_
      refine rhF.iload_n (pc := 30) dX12_can_30 1 rfl ?_
      refine rhF.ck (fun h7 => ?_)
      refine rhF.ck (fun h8 => ?_)
      refine rhF.iald (pc := 31) dX12_can_31 h7 h8 ?_
      exact rhF.zret (pc := 32) dX12_can_32 rfl rfl rfl
theorem c_X12_can (E : rhE) (Γ : rhG) (M : rhM) (v0 : Nat) (v1 : Int32) (v2 : Int32) (v3 : Int32) : ∀ a, f_X12_can Γ M v0 v1 v2 v3 = some a → rhC E 11 yX12_can cX12_can 4 (some .int) [rhR v0, rhI v1, rhI v2, rhI v3] Γ M ((rhe1I Γ) a) := rhF.met (by decide +kernel) (Nat.le_of_ble_eq_true rfl) (b_X12_can M v0 v1 v2 v3)
