def f_X11_spare_155 (k57 : rhG → rhM → Nat → Int32 → Int32 → Int32 → Int32 → Int32 → Option (Int32 × rhG × rhM)) (Γ : rhG) (M : rhM) (v0 : Nat) (v1 : Int32) (v2 : Int32) (v3 : Int32) (v4 : Int32) (v5 : Int32) : Option (Int32 × rhG × rhM) :=
  let x27 : Int32 := v5 + 1
  k57 Γ M v0 v1 v2 v3 v4 x27
def f_X11_spare_57 (k161 : rhG → rhM → Int32 → Int32 → Int32 → Option (Int32 × rhG × rhM)) : Nat → rhG → rhM → Nat → Int32 → Int32 → Int32 → Int32 → Int32 → Option (Int32 × rhG × rhM)
  | 0, _, _, _, _, _, _, _, _ => none
  | n + 1, Γ, M, v0, v1, v2, v3, v4, v5 =>
    rhck (Γ.2.2.1 v0 = 12) <|
    rhck (Γ.2.2.1 (M.2.2 v0 3) = 10) <|
    if v5 < (M.1 (M.2.2 v0 3) 0) then
      (rhck (Γ.2.2.1 (M.2.2 (M.2.2 v0 3) 6) = 15) <|
      rhck (0 ≤ (v5).toInt ∧ (v5).toInt < (Γ.2.2.2 (M.2.2 (M.2.2 v0 3) 6) : Nat)) <|
      let M17 := rhsi M (M.2.2 (M.2.2 v0 3) 6) (v5 : Int32).toNatClampNeg ((M.1 (M.2.2 (M.2.2 v0 3) 6) v5.toNatClampNeg) + v1)
      rhck (Γ.2.2.1 (M.2.2 v0 5) = 8) <|
      rhck (Γ.2.2.1 (M.2.2 v0 15) = 6) <|
      (f_X5_spread Γ M17 (M.2.2 v0 15) (M.2.2 v0 3) (M.2.1 (M.2.2 v0 5) 0) (v4 - 1)).bind fun r20 =>
      let x21 := r20.1
      rhck (Γ.2.2.1 (r20.2.2.2 v0 3) = 10) <|
      rhck (Γ.2.2.1 (r20.2.2.2 (r20.2.2.2 v0 3) 6) = 15) <|
      rhck (0 ≤ (v5).toInt ∧ (v5).toInt < (Γ.2.2.2 (r20.2.2.2 (r20.2.2.2 v0 3) 6) : Nat)) <|
      let M25 := rhsi r20.2 (r20.2.2.2 (r20.2.2.2 v0 3) 6) (v5 : Int32).toNatClampNeg ((r20.2.1 (r20.2.2.2 (r20.2.2.2 v0 3) 6) v5.toNatClampNeg) - v1)
      if x21 = ((-1)) then
        (f_X11_spare_155 (f_X11_spare_57 k161 n) Γ M25 v0 v1 v2 v3 v4 v5)
      else
        rhck (Γ.2.2.1 (r20.2.2.2 v0 15) = 6) <|
        (f_X5_pullsTo Γ M25 (r20.2.2.2 v0 15) x21).bind fun r29 =>
        if r29 < v4 then
          ((f_X5_pullsTo Γ M25 (r20.2.2.2 v0 15) x21).bind fun r31 =>
          f_X11_spare_155 (f_X11_spare_57 k161 n) Γ M25 v0 v1 v2 v5 r31 v5)
        else
          f_X11_spare_155 (f_X11_spare_57 k161 n) Γ M25 v0 v1 v2 v3 v4 v5)
    else
      k161 Γ M v2 v3 v4
def f_X11_spare_161 (Γ : rhG) (M : rhM) (v2 : Int32) (v3 : Int32) (v4 : Int32) : Option (Int32 × rhG × rhM) :=
  if v3 = ((-1)) then
    (some (((-1), Γ, M)))
  else
    if v2 = 0 then
      (some ((v3, Γ, M)))
    else
      some ((v4, Γ, M))
def f_X11_spare (Γ : rhG) (M : rhM) (v0 : Nat) (v1 : Int32) (v2 : Int32) : Option (Int32 × rhG × rhM) :=
  if v1 < 1 then
    (some (((-1), Γ, M)))
  else
    if 99 < v1 then
      (some (((-1), Γ, M)))
    else
      if v2 < 0 then
        (some (((-1), Γ, M)))
      else
        if 1 < v2 then
          (some (((-1), Γ, M)))
        else
          rhck (Γ.2.2.1 v0 = 12) <|
          (f_X11_isSpent Γ M v0).bind fun r6 =>
          if r6 = 0 then
            ((f_X11_readySearch Γ M v0).bind fun r8 =>
            rhck (r8.1.2.2.1 v0 = 12) <|
            rhck (r8.1.2.2.1 (r8.2.2.2 v0 15) = 6) <|
            (f_X5_seekRow r8.1 r8.2 (r8.2.2.2 v0 15) (r8.2.2.1 v0 10) (r8.2.1 v0 11)).bind fun r11 =>
            f_X11_spare_57 (f_X11_spare_161) rhFU r8.1 r11 v0 v1 v2 ((-1)) 1000000 0)
          else
            some (((-1), Γ, M))
set_option maxHeartbeats 4000000 in
set_option maxRecDepth 100000 in
theorem b_X11_spare_155 {E : rhE} {Γ0 : rhG} {k57 : rhG → rhM → Nat → Int32 → Int32 → Int32 → Int32 → Int32 → Option (Int32 × rhG × rhM)} (hk57 : ∀ (Γ : rhG) (M : rhM) (v0 : Nat) (v1 : Int32) (v2 : Int32) (v3 : Int32) (v4 : Int32) (v5 : Int32), rhF E 11 7 yX11_spare cX11_spare (some .int) Γ0 rhe2I (k57 Γ M v0 v1 v2 v3 v4 v5) 57 [(0, rhR v0), (1, rhI v1), (2, rhI v2), (3, rhI v3), (4, rhI v4), (5, rhI v5)] [] Γ M) : ∀ (Γ : rhG) (M : rhM) (v0 : Nat) (v1 : Int32) (v2 : Int32) (v3 : Int32) (v4 : Int32) (v5 : Int32), rhF E 11 7 yX11_spare cX11_spare (some .int) Γ0 rhe2I (f_X11_spare_155 k57 Γ M v0 v1 v2 v3 v4 v5) 155 [(0, rhR v0), (1, rhI v1), (2, rhI v2), (3, rhI v3), (4, rhI v4), (5, rhI v5)] [] Γ M := by
  intro Γ M v0 v1 v2 v3 v4 v5
  rw [f_X11_spare_155]
  refine rhF.iinc (pc := 155) (L' := [(5, rhI _), (0, rhR _), (1, rhI _), (2, rhI _), (3, rhI _), (4, rhI _)]) dX11_spare_155 5 rfl rfl (by decide) rfl ?_
  refine rhF.goto (pc := 158) 57 dX11_spare_158 (by decide) ?_
  refine rhF.sub [1, 2, 3, 4, 5, 0] rfl ?_
  exact hk57 _ _ _ _ _ _ _ _
set_option maxHeartbeats 4000000 in
set_option maxRecDepth 100000 in
theorem b_X11_spare_57 {E : rhE} {Γ0 : rhG} {k161 : rhG → rhM → Int32 → Int32 → Int32 → Option (Int32 × rhG × rhM)} (hk161 : ∀ (Γ : rhG) (M : rhM) (v2 : Int32) (v3 : Int32) (v4 : Int32), rhF E 11 7 yX11_spare cX11_spare (some .int) Γ0 rhe2I (k161 Γ M v2 v3 v4) 161 [(2, rhI v2), (3, rhI v3), (4, rhI v4)] [] Γ M) : ∀ (n : Nat) (Γ : rhG) (M : rhM) (v0 : Nat) (v1 : Int32) (v2 : Int32) (v3 : Int32) (v4 : Int32) (v5 : Int32), rhF E 11 7 yX11_spare cX11_spare (some .int) Γ0 rhe2I (f_X11_spare_57 k161 n Γ M v0 v1 v2 v3 v4 v5) 57 [(0, rhR v0), (1, rhI v1), (2, rhI v2), (3, rhI v3), (4, rhI v4), (5, rhI v5)] [] Γ M := by
  intro n
  induction n with
  | zero => intro Γ M v0 v1 v2 v3 v4 v5; rw [f_X11_spare_57]; exact rhF.nope
  | succ n ih =>
    intro Γ M v0 v1 v2 v3 v4 v5
    rw [f_X11_spare_57]
    refine rhF.iload (pc := 57) dX11_spare_57 5 rfl ?_
    refine rhF.aload_n (pc := 59) dX11_spare_59 0 rfl ?_
    refine rhF.ck (fun h12 => ?_)
    refine rhF.get (pc := 60) (rhR _) dX11_spare_60 fl_X11_23 h12 rfl ?_
    refine rhF.ck (fun h13 => ?_)
    refine rhF.get (pc := 63) (rhI _) dX11_spare_63 fl_X11_141 h13 rfl ?_
    refine rhF.icmp_ge (pc := 66) 161 dX11_spare_66 (by decide) (fun h14 => ?_) (fun h14 => ?_)
    · refine rhF.aload_n (pc := 69) dX11_spare_69 0 rfl ?_
      refine rhF.get (pc := 70) (rhR _) dX11_spare_70 fl_X11_23 h12 rfl ?_
      refine rhF.get (pc := 73) (rhR _) dX11_spare_73 fl_X11_262 h13 rfl ?_
      refine rhF.iload (pc := 76) dX11_spare_76 5 rfl ?_
      refine rhF.dup2ri (pc := 78) dX11_spare_78 ?_
      refine rhF.ck (fun h15 => ?_)
      refine rhF.ck (fun h16 => ?_)
      refine rhF.iald (pc := 79) dX11_spare_79 h15 h16 ?_
      refine rhF.iload_n (pc := 80) dX11_spare_80 1 rfl ?_
      refine rhF.iadd (pc := 81) dX11_spare_81 ?_
      refine rhF.iast (pc := 82) dX11_spare_82 h15 h16 ?_
      refine rhF.aload_n (pc := 83) dX11_spare_83 0 rfl ?_
      refine rhF.get (pc := 84) (rhR _) dX11_spare_84 fl_X11_228 h12 rfl ?_
      refine rhF.aload_n (pc := 87) dX11_spare_87 0 rfl ?_
      refine rhF.get (pc := 88) (rhR _) dX11_spare_88 fl_X11_23 h12 rfl ?_
      refine rhF.aload_n (pc := 91) dX11_spare_91 0 rfl ?_
      refine rhF.get (pc := 92) (rhR _) dX11_spare_92 fl_X11_33 h12 rfl ?_
      refine rhF.ck (fun h18 => ?_)
      refine rhF.get (pc := 95) (rhJ _) dX11_spare_95 fl_X11_207 h18 rfl ?_
      refine rhF.iload (pc := 98) dX11_spare_98 4 rfl ?_
      refine rhF.iconst (pc := 100) (v := 1) dX11_spare_100 (by decide) ?_
      refine rhF.isub (pc := 101) dX11_spare_101 ?_
      refine rhF.ck (fun h19 => ?_)
      refine rhF.callV (pc := 102) (ci := 5) (embc := rhe1I _) [rhR _, rhJ _, rhI _] dX11_spare_102 ml_X11_239 mv_X5_spread ⟨_, rfl, rfl⟩ h19 (c_X5_spread _ _ _ _ _ _ _) (by decide) (by decide) rfl (Nat.le_of_ble_eq_true rfl) (fun r20 _ => ?_)
      refine rhF.istore (pc := 105) (L' := [(6, rhI _), (0, rhR _), (1, rhI _), (2, rhI _), (3, rhI _), (4, rhI _), (5, rhI _)]) dX11_spare_105 (by decide) rfl ?_
      refine rhF.aload_n (pc := 107) dX11_spare_107 1 rfl ?_
      refine rhF.get (pc := 108) (rhR _) dX11_spare_108 fl_X11_23 h12 rfl ?_
      refine rhF.ck (fun h22 => ?_)
      refine rhF.get (pc := 111) (rhR _) dX11_spare_111 fl_X11_262 h22 rfl ?_
      refine rhF.iload (pc := 114) dX11_spare_114 6 rfl ?_
      refine rhF.dup2ri (pc := 116) dX11_spare_116 ?_
      refine rhF.ck (fun h23 => ?_)
      refine rhF.ck (fun h24 => ?_)
      refine rhF.iald (pc := 117) dX11_spare_117 h23 h24 ?_
      refine rhF.iload_n (pc := 118) dX11_spare_118 2 rfl ?_
      refine rhF.isub (pc := 119) dX11_spare_119 ?_
      refine rhF.iast (pc := 120) dX11_spare_120 h23 h24 ?_
      refine rhF.iload (pc := 121) dX11_spare_121 0 rfl ?_
      refine rhF.iconst (pc := 123) (v := (-1)) dX11_spare_123 (by decide) ?_
      refine rhF.icmp_eq (pc := 124) 155 dX11_spare_124 (by decide) (fun h26 => ?_) (fun h26 => ?_)
      · refine rhF.sub [1, 2, 3, 4, 5, 6] rfl ?_
        exact (b_X11_spare_155 ih) _ _ _ _ _ _ _ _
      · refine rhF.aload_n (pc := 127) dX11_spare_127 1 rfl ?_
        refine rhF.get (pc := 128) (rhR _) dX11_spare_128 fl_X11_228 h12 rfl ?_
        refine rhF.iload (pc := 131) dX11_spare_131 0 rfl ?_
        refine rhF.ck (fun h28 => ?_)
        refine rhF.callV (pc := 133) (ci := 5) (embc := rhe0I _ _) [rhI _] dX11_spare_133 ml_X11_265 mv_X5_pullsTo ⟨_, rfl, rfl⟩ h28 (c_X5_pullsTo _ _ _ _ _) (by decide) (by decide) rfl (Nat.le_of_ble_eq_true rfl) (fun r29 _ => ?_)
        refine rhF.iload (pc := 136) dX11_spare_136 5 rfl ?_
        refine rhF.icmp_ge (pc := 138) 155 dX11_spare_138 (by decide) (fun h30 => ?_) (fun h30 => ?_)
        · refine rhF.iload (pc := 141) dX11_spare_141 6 rfl ?_
          refine rhF.istore_n (pc := 143) (L' := [(3, rhI _), (6, rhI _), (0, rhR _), (1, rhI _), (2, rhI _), (4, rhI _), (5, rhI _)]) dX11_spare_143 (by decide) rfl ?_
          refine rhF.aload_n (pc := 144) dX11_spare_144 2 rfl ?_
          refine rhF.get (pc := 145) (rhR _) dX11_spare_145 fl_X11_228 h12 rfl ?_
          refine rhF.iload (pc := 148) dX11_spare_148 1 rfl ?_
          refine rhF.callV (pc := 150) (ci := 5) (embc := rhe0I _ _) [rhI _] dX11_spare_150 ml_X11_265 mv_X5_pullsTo ⟨_, rfl, rfl⟩ h28 (c_X5_pullsTo _ _ _ _ _) (by decide) (by decide) rfl (Nat.le_of_ble_eq_true rfl) (fun r31 _ => ?_)
          refine rhF.istore (pc := 153) (L' := [(4, rhI _), (3, rhI _), (6, rhI _), (0, rhR _), (1, rhI _), (2, rhI _), (5, rhI _)]) dX11_spare_153 (by decide) rfl ?_
          refine rhF.sub [3, 4, 5, 1, 0, 6] rfl ?_
          exact (b_X11_spare_155 ih) _ _ _ _ _ _ _ _
        · refine rhF.sub [1, 2, 3, 4, 5, 6] rfl ?_
          exact (b_X11_spare_155 ih) _ _ _ _ _ _ _ _
    · refine rhF.sub [2, 3, 4] rfl ?_
      exact hk161 _ _ _ _ _
set_option maxHeartbeats 4000000 in
set_option maxRecDepth 100000 in
theorem b_X11_spare_161 {E : rhE} {Γ0 : rhG} : ∀ (Γ : rhG) (M : rhM) (v2 : Int32) (v3 : Int32) (v4 : Int32), rhF E 11 7 yX11_spare cX11_spare (some .int) Γ0 rhe2I (f_X11_spare_161 Γ M v2 v3 v4) 161 [(2, rhI v2), (3, rhI v3), (4, rhI v4)] [] Γ M := by
  intro Γ M v2 v3 v4
  rw [f_X11_spare_161]
  refine rhF.iload_n (pc := 161) dX11_spare_161 1 rfl ?_
  refine rhF.iconst (pc := 162) (v := (-1)) dX11_spare_162 (by decide) ?_
  refine rhF.icmp_ne (pc := 163) 168 dX11_spare_163 (by decide) (fun h32 => ?_) (fun h32 => ?_)
  · refine rhF.iconst (pc := 166) (v := (-1)) dX11_spare_166 (by decide) ?_
    exact rhF.zret (pc := 167) dX11_spare_167 rfl rfl rfl
  · refine rhF.iload_n (pc := 168) dX11_spare_168 0 rfl ?_
    refine rhF.if_ne (pc := 169) 176 dX11_spare_169 (by decide) (fun h33 => ?_) (fun h33 => ?_)
    · refine rhF.iload_n (pc := 172) dX11_spare_172 1 rfl ?_
      refine rhF.goto (pc := 173) 178 dX11_spare_173 (by decide) ?_
      exact rhF.zret (pc := 178) dX11_spare_178 rfl rfl rfl
    · refine rhF.iload (pc := 176) dX11_spare_176 2 rfl ?_
      exact rhF.zret (pc := 178) dX11_spare_178 rfl rfl rfl
set_option maxHeartbeats 4000000 in
set_option maxRecDepth 100000 in
theorem b_X11_spare {E : rhE} {Γ0 : rhG} : ∀ (Γ : rhG) (M : rhM) (v0 : Nat) (v1 : Int32) (v2 : Int32), rhF E 11 7 yX11_spare cX11_spare (some .int) Γ0 rhe2I (f_X11_spare Γ M v0 v1 v2) 0 [(0, rhR v0), (1, rhI v1), (2, rhI v2)] [] Γ M := by
  intro Γ M v0 v1 v2
  rw [f_X11_spare]
  refine rhF.iload_n (pc := 0) dX11_spare_0 1 rfl ?_
  refine rhF.iconst (pc := 1) (v := 1) dX11_spare_1 (by decide) ?_
  refine rhF.icmp_lt (pc := 2) 27 dX11_spare_2 (by decide) (fun h1 => ?_) (fun h1 => ?_)
  · refine rhF.iconst (pc := 27) (v := (-1)) dX11_spare_27 (by decide) ?_
    exact rhF.zret (pc := 28) dX11_spare_28 rfl rfl rfl
  · refine rhF.iload_n (pc := 5) dX11_spare_5 1 rfl ?_
    refine rhF.bipush (pc := 6) (v := 99) dX11_spare_6 (by decide) ?_
    refine rhF.icmp_gt (pc := 8) 27 dX11_spare_8 (by decide) (fun h2 => ?_) (fun h2 => ?_)
    · refine rhF.iconst (pc := 27) (v := (-1)) dX11_spare_27 (by decide) ?_
      exact rhF.zret (pc := 28) dX11_spare_28 rfl rfl rfl
    · refine rhF.iload_n (pc := 11) dX11_spare_11 2 rfl ?_
      refine rhF.if_lt (pc := 12) 27 dX11_spare_12 (by decide) (fun h3 => ?_) (fun h3 => ?_)
      · refine rhF.iconst (pc := 27) (v := (-1)) dX11_spare_27 (by decide) ?_
        exact rhF.zret (pc := 28) dX11_spare_28 rfl rfl rfl
      · refine rhF.iload_n (pc := 15) dX11_spare_15 2 rfl ?_
        refine rhF.iconst (pc := 16) (v := 1) dX11_spare_16 (by decide) ?_
        refine rhF.icmp_gt (pc := 17) 27 dX11_spare_17 (by decide) (fun h4 => ?_) (fun h4 => ?_)
        · refine rhF.iconst (pc := 27) (v := (-1)) dX11_spare_27 (by decide) ?_
          exact rhF.zret (pc := 28) dX11_spare_28 rfl rfl rfl
        · refine rhF.aload_n (pc := 20) dX11_spare_20 0 rfl ?_
          refine rhF.ck (fun h5 => ?_)
          refine rhF.callV (pc := 21) (ci := 11) (embc := rhe0I _ _) [] dX11_spare_21 ml_X11_221 mv_X11_isSpent ⟨_, rfl, rfl⟩ h5 (c_X11_isSpent _ _ _ _) (by decide) (by decide) rfl (Nat.le_of_ble_eq_true rfl) (fun r6 _ => ?_)
          refine rhF.if_eq (pc := 24) 29 dX11_spare_24 (by decide) (fun h7 => ?_) (fun h7 => ?_)
          · refine rhF.aload_n (pc := 29) dX11_spare_29 0 rfl ?_
            refine rhF.callV (pc := 30) (ci := 11) (embc := rhe2U) [] dX11_spare_30 ml_X11_225 mv_X11_readySearch ⟨_, rfl, rfl⟩ h5 (c_X11_readySearch _ _ _ _) (by decide) (by decide) rfl (Nat.le_of_ble_eq_true rfl) (fun r8 _ => ?_)
            refine rhF.aload_n (pc := 33) dX11_spare_33 0 rfl ?_
            refine rhF.ck (fun h9 => ?_)
            refine rhF.get (pc := 34) (rhR _) dX11_spare_34 fl_X11_228 h9 rfl ?_
            refine rhF.aload_n (pc := 37) dX11_spare_37 0 rfl ?_
            refine rhF.get (pc := 38) (rhJ _) dX11_spare_38 fl_X11_98 h9 rfl ?_
            refine rhF.aload_n (pc := 41) dX11_spare_41 0 rfl ?_
            refine rhF.get (pc := 42) (rhI _) dX11_spare_42 fl_X11_101 h9 rfl ?_
            refine rhF.ck (fun h10 => ?_)
            refine rhF.callV (pc := 45) (ci := 5) (embc := rhe1U _) [rhJ _, rhI _] dX11_spare_45 ml_X11_232 mv_X5_seekRow ⟨_, rfl, rfl⟩ h10 (c_X5_seekRow _ _ _ _ _ _) (by decide) (by decide) rfl (Nat.le_of_ble_eq_true rfl) (fun r11 _ => ?_)
            refine rhF.iconst (pc := 48) (v := (-1)) dX11_spare_48 (by decide) ?_
            refine rhF.istore_n (pc := 49) (L' := [(3, rhI _), (0, rhR _), (1, rhI _), (2, rhI _)]) dX11_spare_49 (by decide) rfl ?_
            refine rhF.ldc (pc := 50) dX11_spare_50 k_X11_238 ?_
            refine rhF.istore (pc := 52) (L' := [(4, rhI _), (3, rhI _), (0, rhR _), (1, rhI _), (2, rhI _)]) dX11_spare_52 (by decide) rfl ?_
            refine rhF.iconst (pc := 54) (v := 0) dX11_spare_54 (by decide) ?_
            refine rhF.istore (pc := 55) (L' := [(5, rhI _), (4, rhI _), (3, rhI _), (0, rhR _), (1, rhI _), (2, rhI _)]) dX11_spare_55 (by decide) rfl ?_
            refine rhF.sub [3, 4, 5, 2, 1, 0] rfl ?_
            exact (b_X11_spare_57 (b_X11_spare_161) rhFU) _ _ _ _ _ _ _ _
          · refine rhF.iconst (pc := 27) (v := (-1)) dX11_spare_27 (by decide) ?_
            exact rhF.zret (pc := 28) dX11_spare_28 rfl rfl rfl
theorem c_X11_spare (E : rhE) (Γ : rhG) (M : rhM) (v0 : Nat) (v1 : Int32) (v2 : Int32) : ∀ a, f_X11_spare Γ M v0 v1 v2 = some a → rhC E 11 yX11_spare cX11_spare 7 (some .int) [rhR v0, rhI v1, rhI v2] Γ M (rhe2I a) := rhF.met (by decide +kernel) (Nat.le_of_ble_eq_true rfl) (b_X11_spare (Γ0 := Γ) Γ M v0 v1 v2)
def f_X11_takeBack (Γ : rhG) (M : rhM) (v0 : Nat) (v1 : Int32) : Option (rhM) :=
  (f_X3_fromOf Γ M v1).bind fun r1 =>
  (f_X3_manyOf Γ M v1).bind fun r2 =>
  (f_X3_toOf Γ M v1).bind fun r3 =>
  rhck (Γ.2.2.1 v0 = 12) <|
  (f_X11_canBeFrom Γ M v0 (M.2.2 v0 5) r3 r2 r1).bind fun r5 =>
  if r5 = 0 then
    (some M)
  else
    rhck (Γ.2.2.1 (M.2.2 v0 7) = 4) <|
    rhck (Γ.2.2.1 (M.2.2 v0 3) = 10) <|
    rhck (Γ.2.2.1 (M.2.2 v0 5) = 8) <|
    (f_X7_last Γ M (M.2.2 v0 5) r3 r2).bind fun r10 =>
    rhck (Γ.2.2.1 (M.2.2 (M.2.2 v0 3) 8) = 15) <|
    rhck (0 ≤ (r10).toInt ∧ (r10).toInt < (Γ.2.2.2 (M.2.2 (M.2.2 v0 3) 8) : Nat)) <|
    let M13 := rhsi M (M.2.2 v0 7) 2 ((M.1 (M.2.2 v0 7) 2) - (M.1 (M.2.2 (M.2.2 v0 3) 8) r10.toNatClampNeg))
    (f_X7_after Γ M13 (M.2.2 v0 5) r3 r2 r1).bind fun r14 =>
    (f_X7_look Γ M13 (M.2.2 v0 5) (M.2.2 v0 3) r14).bind fun r15 =>
    some r15
set_option maxHeartbeats 4000000 in
set_option maxRecDepth 100000 in
theorem b_X11_takeBack {E : rhE} {Γ : rhG} : ∀ (M : rhM) (v0 : Nat) (v1 : Int32), rhF E 7 5 yX11_takeBack cX11_takeBack none Γ (rhe1U Γ) (f_X11_takeBack Γ M v0 v1) 0 [(0, rhR v0), (1, rhI v1)] [] Γ M := by
  intro M v0 v1
  rw [f_X11_takeBack]
  refine rhF.iload_n (pc := 0) dX11_takeBack_0 1 rfl ?_
  refine rhF.callS (pc := 1) (embc := rhe0I _ _) [rhI _] dX11_takeBack_1 ml_X11_198 ms_X3_fromOf (c_X3_fromOf _ _ _ _) (by decide) (by decide) rfl (Nat.le_of_ble_eq_true rfl) (fun r1 _ => ?_)
  refine rhF.istore_n (pc := 4) (L' := [(2, rhI _), (0, rhR _), (1, rhI _)]) dX11_takeBack_4 (by decide) rfl ?_
  refine rhF.iload_n (pc := 5) dX11_takeBack_5 2 rfl ?_
  refine rhF.callS (pc := 6) (embc := rhe0I _ _) [rhI _] dX11_takeBack_6 ml_X11_201 ms_X3_manyOf (c_X3_manyOf _ _ _ _) (by decide) (by decide) rfl (Nat.le_of_ble_eq_true rfl) (fun r2 _ => ?_)
  refine rhF.istore_n (pc := 9) (L' := [(3, rhI _), (2, rhI _), (0, rhR _), (1, rhI _)]) dX11_takeBack_9 (by decide) rfl ?_
  refine rhF.iload_n (pc := 10) dX11_takeBack_10 3 rfl ?_
  refine rhF.callS (pc := 11) (embc := rhe0I _ _) [rhI _] dX11_takeBack_11 ml_X11_204 ms_X3_toOf (c_X3_toOf _ _ _ _) (by decide) (by decide) rfl (Nat.le_of_ble_eq_true rfl) (fun r3 _ => ?_)
  refine rhF.istore (pc := 14) (L' := [(4, rhI _), (3, rhI _), (2, rhI _), (0, rhR _), (1, rhI _)]) dX11_takeBack_14 (by decide) rfl ?_
  refine rhF.aload_n (pc := 16) dX11_takeBack_16 3 rfl ?_
  refine rhF.aload_n (pc := 17) dX11_takeBack_17 3 rfl ?_
  refine rhF.ck (fun h4 => ?_)
  refine rhF.get (pc := 18) (rhR _) dX11_takeBack_18 fl_X11_33 h4 rfl ?_
  refine rhF.iload (pc := 21) dX11_takeBack_21 0 rfl ?_
  refine rhF.iload_n (pc := 23) dX11_takeBack_23 1 rfl ?_
  refine rhF.iload_n (pc := 24) dX11_takeBack_24 2 rfl ?_
  refine rhF.callV (pc := 25) (ci := 11) (embc := rhe0I _ _) [rhR _, rhI _, rhI _, rhI _] dX11_takeBack_25 ml_X11_148 mv_X11_canBeFrom ⟨_, rfl, rfl⟩ h4 (c_X11_canBeFrom _ _ _ _ _ _ _ _) (by decide) (by decide) rfl (Nat.le_of_ble_eq_true rfl) (fun r5 _ => ?_)
  refine rhF.if_eq (pc := 28) 83 dX11_takeBack_28 (by decide) (fun h6 => ?_) (fun h6 => ?_)
  · exact rhF.vret (pc := 83) dX11_takeBack_83 rfl rfl
  · refine rhF.aload_n (pc := 31) dX11_takeBack_31 3 rfl ?_
    refine rhF.get (pc := 32) (rhR _) dX11_takeBack_32 fl_X11_45 h4 rfl ?_
    refine rhF.dupr (pc := 35) dX11_takeBack_35 ?_
    refine rhF.ck (fun h7 => ?_)
    refine rhF.get (pc := 36) (rhI _) dX11_takeBack_36 fl_X11_177 h7 rfl ?_
    refine rhF.aload_n (pc := 39) dX11_takeBack_39 3 rfl ?_
    refine rhF.get (pc := 40) (rhR _) dX11_takeBack_40 fl_X11_23 h4 rfl ?_
    refine rhF.ck (fun h8 => ?_)
    refine rhF.get (pc := 43) (rhR _) dX11_takeBack_43 fl_X11_167 h8 rfl ?_
    refine rhF.aload_n (pc := 46) dX11_takeBack_46 3 rfl ?_
    refine rhF.get (pc := 47) (rhR _) dX11_takeBack_47 fl_X11_33 h4 rfl ?_
    refine rhF.iload (pc := 50) dX11_takeBack_50 0 rfl ?_
    refine rhF.iload_n (pc := 52) dX11_takeBack_52 1 rfl ?_
    refine rhF.ck (fun h9 => ?_)
    refine rhF.callV (pc := 53) (ci := 7) (embc := rhe0I _ _) [rhI _, rhI _] dX11_takeBack_53 ml_X11_152 mv_X7_last ⟨_, rfl, rfl⟩ h9 (c_X7_last _ _ _ _ _ _) (by decide) (by decide) rfl (Nat.le_of_ble_eq_true rfl) (fun r10 _ => ?_)
    refine rhF.ck (fun h11 => ?_)
    refine rhF.ck (fun h12 => ?_)
    refine rhF.iald (pc := 56) dX11_takeBack_56 h11 h12 ?_
    refine rhF.isub (pc := 57) dX11_takeBack_57 ?_
    refine rhF.puti (pc := 58) dX11_takeBack_58 fl_X11_177 h7 (fun q hq => by cases hq; exact Or.inl rfl) ⟨rfl, rfl⟩ (fun _ => rfl) ?_
    refine rhF.aload_n (pc := 61) dX11_takeBack_61 3 rfl ?_
    refine rhF.get (pc := 62) (rhR _) dX11_takeBack_62 fl_X11_33 h4 rfl ?_
    refine rhF.aload_n (pc := 65) dX11_takeBack_65 3 rfl ?_
    refine rhF.get (pc := 66) (rhR _) dX11_takeBack_66 fl_X11_23 h4 rfl ?_
    refine rhF.aload_n (pc := 69) dX11_takeBack_69 3 rfl ?_
    refine rhF.get (pc := 70) (rhR _) dX11_takeBack_70 fl_X11_33 h4 rfl ?_
    refine rhF.iload (pc := 73) dX11_takeBack_73 0 rfl ?_
    refine rhF.iload_n (pc := 75) dX11_takeBack_75 1 rfl ?_
    refine rhF.iload_n (pc := 76) dX11_takeBack_76 2 rfl ?_
    refine rhF.callV (pc := 77) (ci := 7) (embc := rhe0J _ _) [rhI _, rhI _, rhI _] dX11_takeBack_77 ml_X11_180 mv_X7_after ⟨_, rfl, rfl⟩ h9 (c_X7_after _ _ _ _ _ _ _) (by decide) (by decide) rfl (Nat.le_of_ble_eq_true rfl) (fun r14 _ => ?_)
    refine rhF.callV (pc := 80) (ci := 7) (embc := rhe1U _) [rhR _, rhJ _] dX11_takeBack_80 ml_X11_91 mv_X7_look ⟨_, rfl, rfl⟩ h9 (c_X7_look _ _ _ _ _ _) (by decide) (by decide) rfl (Nat.le_of_ble_eq_true rfl) (fun r15 _ => ?_)
    exact rhF.vret (pc := 83) dX11_takeBack_83 rfl rfl
theorem c_X11_takeBack (E : rhE) (Γ : rhG) (M : rhM) (v0 : Nat) (v1 : Int32) : ∀ a, f_X11_takeBack Γ M v0 v1 = some a → rhC E 7 yX11_takeBack cX11_takeBack 5 none [rhR v0, rhI v1] Γ M ((rhe1U Γ) a) := rhF.met (by decide +kernel) (Nat.le_of_ble_eq_true rfl) (b_X11_takeBack M v0 v1)
def f_X11_tell (Γ : rhG) (M : rhM) (v0 : Nat) (v1 : Int32) (v2 : Int32) (v3 : Int32) : Option (Int32 × rhM) :=
  rhck (Γ.2.2.1 v0 = 12) <|
  (f_X11_areUnlikeRails Γ M v0 v1 v3).bind fun r2 =>
  if r2 = 0 then
    (some (((-1), M)))
  else
    if v2 < 1 then
      (some (((-1), M)))
    else
      if 8 < v2 then
        (some (((-1), M)))
      else
        (f_X3_code Γ M v1 v2 v3).bind fun r6 =>
        rhck (Γ.2.2.1 (M.2.2 v0 8) = 4) <|
        (f_X3_add Γ M (M.2.2 v0 8) r6).bind fun r8 =>
        if r8.1 = 0 then
          (some (((-1), r8.2)))
        else
          rhck (Γ.2.2.1 (r8.2.2.2 v0 8) = 4) <|
          some ((r8.2.1 (r8.2.2.2 v0 8) 1, r8.2))
set_option maxHeartbeats 4000000 in
set_option maxRecDepth 100000 in
theorem b_X11_tell {E : rhE} {Γ : rhG} : ∀ (M : rhM) (v0 : Nat) (v1 : Int32) (v2 : Int32) (v3 : Int32), rhF E 6 4 yX11_tell cX11_tell (some .int) Γ (rhe1I Γ) (f_X11_tell Γ M v0 v1 v2 v3) 0 [(0, rhR v0), (1, rhI v1), (2, rhI v2), (3, rhI v3)] [] Γ M := by
  intro M v0 v1 v2 v3
  rw [f_X11_tell]
  refine rhF.aload_n (pc := 0) dX11_tell_0 0 rfl ?_
  refine rhF.iload_n (pc := 1) dX11_tell_1 1 rfl ?_
  refine rhF.iload_n (pc := 2) dX11_tell_2 3 rfl ?_
  refine rhF.ck (fun h1 => ?_)
  refine rhF.callV (pc := 3) (ci := 11) (embc := rhe0I _ _) [rhI _, rhI _] dX11_tell_3 ml_X11_144 mv_X11_areUnlikeRails ⟨_, rfl, rfl⟩ h1 (c_X11_areUnlikeRails _ _ _ _ _ _) (by decide) (by decide) rfl (Nat.le_of_ble_eq_true rfl) (fun r2 _ => ?_)
  refine rhF.if_eq (pc := 6) 20 dX11_tell_6 (by decide) (fun h3 => ?_) (fun h3 => ?_)
  · refine rhF.iconst (pc := 20) (v := (-1)) dX11_tell_20 (by decide) ?_
    exact rhF.zret (pc := 21) dX11_tell_21 rfl rfl rfl
  · refine rhF.iload_n (pc := 9) dX11_tell_9 2 rfl ?_
    refine rhF.iconst (pc := 10) (v := 1) dX11_tell_10 (by decide) ?_
    refine rhF.icmp_lt (pc := 11) 20 dX11_tell_11 (by decide) (fun h4 => ?_) (fun h4 => ?_)
    · refine rhF.iconst (pc := 20) (v := (-1)) dX11_tell_20 (by decide) ?_
      exact rhF.zret (pc := 21) dX11_tell_21 rfl rfl rfl
    · refine rhF.iload_n (pc := 14) dX11_tell_14 2 rfl ?_
      refine rhF.bipush (pc := 15) (v := 8) dX11_tell_15 (by decide) ?_
      refine rhF.icmp_le (pc := 17) 22 dX11_tell_17 (by decide) (fun h5 => ?_) (fun h5 => ?_)
      · refine rhF.iconst (pc := 20) (v := (-1)) dX11_tell_20 (by decide) ?_
        exact rhF.zret (pc := 21) dX11_tell_21 rfl rfl rfl
      · refine rhF.aload_n (pc := 22) dX11_tell_22 0 rfl ?_
        refine rhF.get (pc := 23) (rhR _) dX11_tell_23 fl_X11_49 h1 rfl ?_
        refine rhF.iload_n (pc := 26) dX11_tell_26 1 rfl ?_
        refine rhF.iload_n (pc := 27) dX11_tell_27 2 rfl ?_
        refine rhF.iload_n (pc := 28) dX11_tell_28 3 rfl ?_
        refine rhF.callS (pc := 29) (embc := rhe0I _ _) [rhI _, rhI _, rhI _] dX11_tell_29 ml_X11_170 ms_X3_code (c_X3_code _ _ _ _ _ _) (by decide) (by decide) rfl (Nat.le_of_ble_eq_true rfl) (fun r6 _ => ?_)
        refine rhF.ck (fun h7 => ?_)
        refine rhF.callV (pc := 32) (ci := 3) (embc := rhe1I _) [rhI _] dX11_tell_32 ml_X11_174 mv_X3_add ⟨_, rfl, rfl⟩ h7 (c_X3_add _ _ _ _ _) (by decide) (by decide) rfl (Nat.le_of_ble_eq_true rfl) (fun r8 _ => ?_)
        refine rhF.if_eq (pc := 35) 48 dX11_tell_35 (by decide) (fun h9 => ?_) (fun h9 => ?_)
        · refine rhF.iconst (pc := 48) (v := (-1)) dX11_tell_48 (by decide) ?_
          exact rhF.zret (pc := 49) dX11_tell_49 rfl rfl rfl
        · refine rhF.aload_n (pc := 38) dX11_tell_38 0 rfl ?_
          refine rhF.get (pc := 39) (rhR _) dX11_tell_39 fl_X11_49 h1 rfl ?_
          refine rhF.ck (fun h10 => ?_)
          refine rhF.get (pc := 42) (rhI _) dX11_tell_42 fl_X11_184 h10 rfl ?_
          refine rhF.goto (pc := 45) 49 dX11_tell_45 (by decide) ?_
          exact rhF.zret (pc := 49) dX11_tell_49 rfl rfl rfl
theorem c_X11_tell (E : rhE) (Γ : rhG) (M : rhM) (v0 : Nat) (v1 : Int32) (v2 : Int32) (v3 : Int32) : ∀ a, f_X11_tell Γ M v0 v1 v2 v3 = some a → rhC E 6 yX11_tell cX11_tell 4 (some .int) [rhR v0, rhI v1, rhI v2, rhI v3] Γ M ((rhe1I Γ) a) := rhF.met (by decide +kernel) (Nat.le_of_ble_eq_true rfl) (b_X11_tell M v0 v1 v2 v3)
def f_X11_town (Γ : rhG) (M : rhM) (v0 : Nat) : Option (Int32 × rhM) :=
  rhck (Γ.2.2.1 v0 = 12) <|
  rhck (Γ.2.2.1 (M.2.2 v0 2) = 5) <|
  (f_X4_reads Γ M (M.2.2 v0 2) (M.2.2 v0 0) (M.1 v0 1) (M.2.2 v0 4)).bind fun r3 =>
  let x4 := r3.1
  let M5 := rhsi r3.2 v0 1 0
  if x4 = 0 then
    (some (((-1), M5)))
  else
    let x7 := r3.2.2.2 v0 3
    let M8 := rhsr M5 v0 3 (r3.2.2.2 v0 4)
    let M9 := rhsr M8 v0 4 x7
    (f_X11_beginTown Γ M9 v0).bind fun r10 =>
    rhck (Γ.2.2.1 (r10.2.2 v0 3) = 10) <|
    some ((r10.1 (r10.2.2 v0 3) 1, r10))
set_option maxHeartbeats 4000000 in
set_option maxRecDepth 100000 in
theorem b_X11_town {E : rhE} {Γ : rhG} : ∀ (M : rhM) (v0 : Nat), rhF E 71 3 yX11_town cX11_town (some .int) Γ (rhe1I Γ) (f_X11_town Γ M v0) 0 [(0, rhR v0)] [] Γ M := by
  intro M v0
  rw [f_X11_town]
  refine rhF.aload_n (pc := 0) dX11_town_0 0 rfl ?_
  refine rhF.ck (fun h1 => ?_)
  refine rhF.get (pc := 1) (rhR _) dX11_town_1 fl_X11_16 h1 rfl ?_
  refine rhF.aload_n (pc := 4) dX11_town_4 0 rfl ?_
  refine rhF.get (pc := 5) (rhR _) dX11_town_5 fl_X11_9 h1 rfl ?_
  refine rhF.aload_n (pc := 8) dX11_town_8 0 rfl ?_
  refine rhF.get (pc := 9) (rhI _) dX11_town_9 fl_X11_73 h1 rfl ?_
  refine rhF.aload_n (pc := 12) dX11_town_12 0 rfl ?_
  refine rhF.get (pc := 13) (rhR _) dX11_town_13 fl_X11_27 h1 rfl ?_
  refine rhF.ck (fun h2 => ?_)
  refine rhF.callV (pc := 16) (ci := 4) (embc := rhe1I _) [rhR _, rhI _, rhR _] dX11_town_16 ml_X11_80 mv_X4_reads ⟨_, rfl, rfl⟩ h2 (c_X4_reads _ _ _ _ _ _ _) (by decide) (by decide) rfl (Nat.le_of_ble_eq_true rfl) (fun r3 _ => ?_)
  refine rhF.istore_n (pc := 19) (L' := [(1, rhI _), (0, rhR _)]) dX11_town_19 (by decide) rfl ?_
  refine rhF.aload_n (pc := 20) dX11_town_20 1 rfl ?_
  refine rhF.iconst (pc := 21) (v := 0) dX11_town_21 (by decide) ?_
  refine rhF.puti (pc := 22) dX11_town_22 fl_X11_73 h1 (fun q hq => by cases hq; exact Or.inl rfl) ⟨rfl, rfl⟩ (fun _ => rfl) ?_
  refine rhF.iload_n (pc := 25) dX11_town_25 0 rfl ?_
  refine rhF.if_ne (pc := 26) 31 dX11_town_26 (by decide) (fun h6 => ?_) (fun h6 => ?_)
  · refine rhF.iconst (pc := 29) (v := (-1)) dX11_town_29 (by decide) ?_
    exact rhF.zret (pc := 30) dX11_town_30 rfl rfl rfl
  · refine rhF.aload_n (pc := 31) dX11_town_31 1 rfl ?_
    refine rhF.get (pc := 32) (rhR _) dX11_town_32 fl_X11_23 h1 rfl ?_
    refine rhF.astore_n (pc := 35) (L' := [(2, rhR _), (1, rhI _), (0, rhR _)]) dX11_town_35 (by decide) rfl ?_
    refine rhF.aload_n (pc := 36) dX11_town_36 2 rfl ?_
    refine rhF.aload_n (pc := 37) dX11_town_37 2 rfl ?_
    refine rhF.get (pc := 38) (rhR _) dX11_town_38 fl_X11_27 h1 rfl ?_
    refine rhF.putr (pc := 41) dX11_town_41 fl_X11_23 h1 (fun q hq => by cases hq; exact Or.inl rfl) (Or.inl ⟨_, rfl⟩) (fun _ => rfl) ?_
    refine rhF.aload_n (pc := 44) dX11_town_44 2 rfl ?_
    refine rhF.aload_n (pc := 45) dX11_town_45 0 rfl ?_
    refine rhF.putr (pc := 46) dX11_town_46 fl_X11_27 h1 (fun q hq => by cases hq; exact Or.inl rfl) (Or.inl ⟨_, rfl⟩) (fun _ => rfl) ?_
    refine rhF.aload_n (pc := 49) dX11_town_49 2 rfl ?_
    refine rhF.callV (pc := 50) (ci := 11) (embc := rhe1U _) [] dX11_town_50 ml_X11_70 mv_X11_beginTown ⟨_, rfl, rfl⟩ h1 (c_X11_beginTown _ _ _ _) (by decide) (by decide) rfl (Nat.le_of_ble_eq_true rfl) (fun r10 _ => ?_)
    refine rhF.aload_n (pc := 53) dX11_town_53 2 rfl ?_
    refine rhF.get (pc := 54) (rhR _) dX11_town_54 fl_X11_23 h1 rfl ?_
    refine rhF.ck (fun h11 => ?_)
    refine rhF.get (pc := 57) (rhI _) dX11_town_57 fl_X11_84 h11 rfl ?_
    exact rhF.zret (pc := 60) dX11_town_60 rfl rfl rfl
theorem c_X11_town (E : rhE) (Γ : rhG) (M : rhM) (v0 : Nat) : ∀ a, f_X11_town Γ M v0 = some a → rhC E 71 yX11_town cX11_town 3 (some .int) [rhR v0] Γ M ((rhe1I Γ) a) := rhF.met (by decide +kernel) (Nat.le_of_ble_eq_true rfl) (b_X11_town M v0)
def f_X11_undo_27 (Γ : rhG) : Nat → rhM → Nat → Int32 → Int32 → Option (Int32 × rhM)
  | 0, _, _, _, _ => none
  | n + 1, M, v0, v2, v3 =>
    if v3 < v2 then
      (rhck (Γ.2.2.1 v0 = 12) <|
      rhck (Γ.2.2.1 (M.2.2 v0 7) = 4) <|
      rhck (Γ.2.2.1 (M.2.2 (M.2.2 v0 7) 0) = 15) <|
      rhck (0 ≤ ((M.1 (M.2.2 v0 7) 1) - 1).toInt ∧ ((M.1 (M.2.2 v0 7) 1) - 1).toInt < (Γ.2.2.2 (M.2.2 (M.2.2 v0 7) 0) : Nat)) <|
      (f_X11_takeBack Γ M v0 (M.1 (M.2.2 (M.2.2 v0 7) 0) ((M.1 (M.2.2 v0 7) 1) - 1).toNatClampNeg)).bind fun r11 =>
      rhck (Γ.2.2.1 (r11.2.2 v0 7) = 4) <|
      let M13 := rhsi r11 (r11.2.2 v0 7) 1 ((r11.1 (r11.2.2 v0 7) 1) - 1)
      let x14 : Int32 := v3 + 1
      f_X11_undo_27 Γ n M13 v0 v2 x14)
    else
      some ((v2, M))
def f_X11_undo (Γ : rhG) (M : rhM) (v0 : Nat) (v1 : Int32) : Option (Int32 × rhM) :=
  if v1 < 0 then
    (some (((-1), M)))
  else
    if 300 < v1 then
      (some (((-1), M)))
    else
      rhck (Γ.2.2.1 v0 = 12) <|
      rhck (Γ.2.2.1 (M.2.2 v0 7) = 4) <|
      let x5 : Int32 := if (M.1 (M.2.2 v0 7) 1) < v1 then M.1 (M.2.2 v0 7) 1 else v1
      f_X11_undo_27 Γ rhFU M v0 x5 0
set_option maxHeartbeats 4000000 in
set_option maxRecDepth 100000 in
theorem b_X11_undo_27 {E : rhE} {Γ : rhG} : ∀ (n : Nat) (M : rhM) (v0 : Nat) (v2 : Int32) (v3 : Int32), rhF E 8 4 yX11_undo cX11_undo (some .int) Γ (rhe1I Γ) (f_X11_undo_27 Γ n M v0 v2 v3) 27 [(0, rhR v0), (2, rhI v2), (3, rhI v3)] [] Γ M := by
  intro n
  induction n with
  | zero => intro M v0 v2 v3; rw [f_X11_undo_27]; exact rhF.nope
  | succ n ih =>
    intro M v0 v2 v3
    rw [f_X11_undo_27]
    refine rhF.iload_n (pc := 27) dX11_undo_27 2 rfl ?_
    refine rhF.iload_n (pc := 28) dX11_undo_28 1 rfl ?_
    refine rhF.icmp_ge (pc := 29) 72 dX11_undo_29 (by decide) (fun h6 => ?_) (fun h6 => ?_)
    · refine rhF.aload_n (pc := 32) dX11_undo_32 0 rfl ?_
      refine rhF.aload_n (pc := 33) dX11_undo_33 0 rfl ?_
      refine rhF.ck (fun h7 => ?_)
      refine rhF.get (pc := 34) (rhR _) dX11_undo_34 fl_X11_45 h7 rfl ?_
      refine rhF.ck (fun h8 => ?_)
      refine rhF.get (pc := 37) (rhR _) dX11_undo_37 fl_X11_192 h8 rfl ?_
      refine rhF.aload_n (pc := 40) dX11_undo_40 0 rfl ?_
      refine rhF.get (pc := 41) (rhR _) dX11_undo_41 fl_X11_45 h7 rfl ?_
      refine rhF.get (pc := 44) (rhI _) dX11_undo_44 fl_X11_184 h8 rfl ?_
      refine rhF.iconst (pc := 47) (v := 1) dX11_undo_47 (by decide) ?_
      refine rhF.isub (pc := 48) dX11_undo_48 ?_
      refine rhF.ck (fun h9 => ?_)
      refine rhF.ck (fun h10 => ?_)
      refine rhF.iald (pc := 49) dX11_undo_49 h9 h10 ?_
      refine rhF.callV (pc := 50) (ci := 11) (embc := rhe1U _) [rhI _] dX11_undo_50 ml_X11_195 mv_X11_takeBack ⟨_, rfl, rfl⟩ h7 (c_X11_takeBack _ _ _ _ _) (by decide) (by decide) rfl (Nat.le_of_ble_eq_true rfl) (fun r11 _ => ?_)
      refine rhF.aload_n (pc := 53) dX11_undo_53 0 rfl ?_
      refine rhF.get (pc := 54) (rhR _) dX11_undo_54 fl_X11_45 h7 rfl ?_
      refine rhF.dupr (pc := 57) dX11_undo_57 ?_
      refine rhF.ck (fun h12 => ?_)
      refine rhF.get (pc := 58) (rhI _) dX11_undo_58 fl_X11_184 h12 rfl ?_
      refine rhF.iconst (pc := 61) (v := 1) dX11_undo_61 (by decide) ?_
      refine rhF.isub (pc := 62) dX11_undo_62 ?_
      refine rhF.puti (pc := 63) dX11_undo_63 fl_X11_184 h12 (fun q hq => by cases hq; exact Or.inl rfl) ⟨rfl, rfl⟩ (fun _ => rfl) ?_
      refine rhF.iinc (pc := 66) (L' := [(3, rhI _), (0, rhR _), (2, rhI _)]) dX11_undo_66 2 rfl rfl (by decide) rfl ?_
      refine rhF.goto (pc := 69) 27 dX11_undo_69 (by decide) ?_
      refine rhF.sub [1, 2, 0] rfl ?_
      exact ih _ _ _ _
    · refine rhF.iload_n (pc := 72) dX11_undo_72 1 rfl ?_
      exact rhF.zret (pc := 73) dX11_undo_73 rfl rfl rfl
set_option maxHeartbeats 4000000 in
set_option maxRecDepth 100000 in
theorem b_X11_undo {E : rhE} {Γ : rhG} : ∀ (M : rhM) (v0 : Nat) (v1 : Int32), rhF E 8 4 yX11_undo cX11_undo (some .int) Γ (rhe1I Γ) (f_X11_undo Γ M v0 v1) 0 [(0, rhR v0), (1, rhI v1)] [] Γ M := by
  intro M v0 v1
  rw [f_X11_undo]
  refine rhF.iload_n (pc := 0) dX11_undo_0 1 rfl ?_
  refine rhF.if_lt (pc := 1) 11 dX11_undo_1 (by decide) (fun h1 => ?_) (fun h1 => ?_)
  · refine rhF.iconst (pc := 11) (v := (-1)) dX11_undo_11 (by decide) ?_
    exact rhF.zret (pc := 12) dX11_undo_12 rfl rfl rfl
  · refine rhF.iload_n (pc := 4) dX11_undo_4 1 rfl ?_
    refine rhF.sipush (pc := 5) (v := 300) dX11_undo_5 (by decide) ?_
    refine rhF.icmp_le (pc := 8) 13 dX11_undo_8 (by decide) (fun h2 => ?_) (fun h2 => ?_)
    · refine rhF.iconst (pc := 11) (v := (-1)) dX11_undo_11 (by decide) ?_
      exact rhF.zret (pc := 12) dX11_undo_12 rfl rfl rfl
    · refine rhF.iload_n (pc := 13) dX11_undo_13 1 rfl ?_
      refine rhF.aload_n (pc := 14) dX11_undo_14 0 rfl ?_
      refine rhF.ck (fun h3 => ?_)
      refine rhF.get (pc := 15) (rhR _) dX11_undo_15 fl_X11_45 h3 rfl ?_
      refine rhF.ck (fun h4 => ?_)
      refine rhF.get (pc := 18) (rhI _) dX11_undo_18 fl_X11_184 h4 rfl ?_
      refine rhF.mmin (pc := 21) dX11_undo_21 mm_X11_187 (by decide) (Nat.le_of_ble_eq_true rfl) ?_
      refine rhF.istore_n (pc := 24) (L' := [(2, rhI _), (0, rhR _), (1, rhI _)]) dX11_undo_24 (by decide) rfl ?_
      refine rhF.iconst (pc := 25) (v := 0) dX11_undo_25 (by decide) ?_
      refine rhF.istore_n (pc := 26) (L' := [(3, rhI _), (2, rhI _), (0, rhR _), (1, rhI _)]) dX11_undo_26 (by decide) rfl ?_
      refine rhF.sub [2, 1, 0] rfl ?_
      exact (b_X11_undo_27 rhFU) _ _ _ _
theorem c_X11_undo (E : rhE) (Γ : rhG) (M : rhM) (v0 : Nat) (v1 : Int32) : ∀ a, f_X11_undo Γ M v0 v1 = some a → rhC E 8 yX11_undo cX11_undo 4 (some .int) [rhR v0, rhI v1] Γ M ((rhe1I Γ) a) := rhF.met (by decide +kernel) (Nat.le_of_ble_eq_true rfl) (b_X11_undo M v0 v1)
def f_X11_untell (Γ : rhG) (M : rhM) (v0 : Nat) (v1 : Int32) : Option (Int32 × rhM) :=
  rhck (Γ.2.2.1 v0 = 12) <|
  rhck (Γ.2.2.1 (M.2.2 v0 14) = 7) <|
  (f_X6_remove Γ M (M.2.2 v0 14) v1 (M.1 v0 16)).bind fun r3 =>
  rhck (r3.1 = 0 ∨ r3.1 = 1) <|
  some ((r3.1, r3.2))
set_option maxHeartbeats 4000000 in
set_option maxRecDepth 100000 in
theorem b_X11_untell {E : rhE} {Γ : rhG} : ∀ (M : rhM) (v0 : Nat) (v1 : Int32), rhF E 5 2 yX11_untell cX11_untell (some .boolean) Γ (rhe1I Γ) (f_X11_untell Γ M v0 v1) 0 [(0, rhR v0), (1, rhI v1)] [] Γ M := by
  intro M v0 v1
  rw [f_X11_untell]
  refine rhF.aload_n (pc := 0) dX11_untell_0 0 rfl ?_
  refine rhF.ck (fun h1 => ?_)
  refine rhF.get (pc := 1) (rhR _) dX11_untell_1 fl_X11_66 h1 rfl ?_
  refine rhF.iload_n (pc := 4) dX11_untell_4 1 rfl ?_
  refine rhF.aload_n (pc := 5) dX11_untell_5 0 rfl ?_
  refine rhF.get (pc := 6) (rhI _) dX11_untell_6 fl_X11_281 h1 rfl ?_
  refine rhF.ck (fun h2 => ?_)
  refine rhF.callV (pc := 9) (ci := 6) (embc := rhe1I _) [rhI _, rhI _] dX11_untell_9 ml_X11_287 mv_X6_remove ⟨_, rfl, rfl⟩ h2 (c_X6_remove _ _ _ _ _ _) (by decide) (by decide) rfl (Nat.le_of_ble_eq_true rfl) (fun r3 _ => ?_)
  refine rhF.ck (fun h4 => ?_)
  exact rhF.zret (pc := 12) dX11_untell_12 rfl (rhzb h4) rfl
theorem c_X11_untell (E : rhE) (Γ : rhG) (M : rhM) (v0 : Nat) (v1 : Int32) : ∀ a, f_X11_untell Γ M v0 v1 = some a → rhC E 5 yX11_untell cX11_untell 2 (some .boolean) [rhR v0, rhI v1] Γ M ((rhe1I Γ) a) := rhF.met (by decide +kernel) (Nat.le_of_ble_eq_true rfl) (b_X11_untell M v0 v1)
def f_X11_where (Γ : rhG) (M : rhM) (v0 : Nat) (v1 : Int32) (v2 : Int32) : Option (Int32) :=
  rhck (Γ.2.2.1 v0 = 12) <|
  (f_X11_isHouse Γ M v0 v1).bind fun r2 =>
  if r2 = 0 then
    (some ((-1)))
  else
    if v2 = 0 then
      (rhck (Γ.2.2.1 (M.2.2 v0 5) = 8) <|
      (f_X7_railOf Γ M (M.2.2 v0 5) v1).bind fun r6 =>
      some r6)
    else
    if v2 = 1 then
      (rhck (Γ.2.2.1 (M.2.2 v0 5) = 8) <|
      (f_X7_aheadOf Γ M (M.2.2 v0 5) v1).bind fun r9 =>
      some r9)
    else
    some ((-1))
set_option maxHeartbeats 4000000 in
set_option maxRecDepth 100000 in
theorem b_X11_where {E : rhE} {Γ : rhG} {M : rhM} : ∀ (v0 : Nat) (v1 : Int32) (v2 : Int32), rhF E 7 3 yX11_where cX11_where (some .int) Γ (rhe0I Γ M) (f_X11_where Γ M v0 v1 v2) 0 [(0, rhR v0), (1, rhI v1), (2, rhI v2)] [] Γ M := by
  intro v0 v1 v2
  rw [f_X11_where]
  refine rhF.aload_n (pc := 0) dX11_where_0 0 rfl ?_
  refine rhF.iload_n (pc := 1) dX11_where_1 1 rfl ?_
  refine rhF.ck (fun h1 => ?_)
  refine rhF.callV (pc := 2) (ci := 11) (embc := rhe0I _ _) [rhI _] dX11_where_2 ml_X11_125 mv_X11_isHouse ⟨_, rfl, rfl⟩ h1 (c_X11_isHouse _ _ _ _ _) (by decide) (by decide) rfl (Nat.le_of_ble_eq_true rfl) (fun r2 _ => ?_)
  refine rhF.if_ne (pc := 5) 10 dX11_where_5 (by decide) (fun h3 => ?_) (fun h3 => ?_)
  · refine rhF.iconst (pc := 8) (v := (-1)) dX11_where_8 (by decide) ?_
    exact rhF.zret (pc := 9) dX11_where_9 rfl rfl rfl
  · refine rhF.iload_n (pc := 10) dX11_where_10 2 rfl ?_
    refine rhF.ite (fun h4 => ?_) (fun h4 => ?_)
    · refine rhF.ls (pc := 11) 36 dX11_where_11 (by decide) (by rw [h4] <;> rfl) (by decide) ?_
      refine rhF.aload_n (pc := 36) dX11_where_36 0 rfl ?_
      refine rhF.get (pc := 37) (rhR _) dX11_where_37 fl_X11_33 h1 rfl ?_
      refine rhF.iload_n (pc := 40) dX11_where_40 1 rfl ?_
      refine rhF.ck (fun h5 => ?_)
      refine rhF.callV (pc := 41) (ci := 7) (embc := rhe0I _ _) [rhI _] dX11_where_41 ml_X11_128 mv_X7_railOf ⟨_, rfl, rfl⟩ h5 (c_X7_railOf _ _ _ _ _) (by decide) (by decide) rfl (Nat.le_of_ble_eq_true rfl) (fun r6 _ => ?_)
      exact rhF.zret (pc := 44) dX11_where_44 rfl rfl rfl
    · skip
      refine rhF.ite (fun h7 => ?_) (fun h7 => ?_)
      · refine rhF.ls (pc := 11) 45 dX11_where_11 (by decide) (by rw [h7] <;> rfl) (by decide) ?_
        refine rhF.aload_n (pc := 45) dX11_where_45 0 rfl ?_
        refine rhF.get (pc := 46) (rhR _) dX11_where_46 fl_X11_33 h1 rfl ?_
        refine rhF.iload_n (pc := 49) dX11_where_49 1 rfl ?_
        refine rhF.ck (fun h8 => ?_)
        refine rhF.callV (pc := 50) (ci := 7) (embc := rhe0I _ _) [rhI _] dX11_where_50 ml_X11_131 mv_X7_aheadOf ⟨_, rfl, rfl⟩ h8 (c_X7_aheadOf _ _ _ _ _) (by decide) (by decide) rfl (Nat.le_of_ble_eq_true rfl) (fun r9 _ => ?_)
        exact rhF.zret (pc := 53) dX11_where_53 rfl rfl rfl
      · skip
        refine rhF.ls (pc := 11) 54 dX11_where_11 (by decide) (rhlkd _ _ _ (List.forall_mem_cons.mpr ⟨rhne h4 (n := 0) (by decide), List.forall_mem_cons.mpr ⟨rhne h7 (n := 1) (by decide), fun _ h => absurd h List.not_mem_nil⟩⟩)) (by decide) ?_
        refine rhF.iconst (pc := 54) (v := (-1)) dX11_where_54 (by decide) ?_
        exact rhF.zret (pc := 55) dX11_where_55 rfl rfl rfl
theorem c_X11_where (E : rhE) (Γ : rhG) (M : rhM) (v0 : Nat) (v1 : Int32) (v2 : Int32) : ∀ a, f_X11_where Γ M v0 v1 v2 = some a → rhC E 7 yX11_where cX11_where 3 (some .int) [rhR v0, rhI v1, rhI v2] Γ M ((rhe0I Γ M) a) := rhF.met (by decide +kernel) (Nat.le_of_ble_eq_true rfl) (b_X11_where v0 v1 v2)
def f_X11_worth (Γ : rhG) (M : rhM) (v0 : Nat) : Option (Int32) :=
  rhck (Γ.2.2.1 v0 = 12) <|
  rhck (Γ.2.2.1 (M.2.2 v0 5) = 8) <|
  rhck (Γ.2.2.1 (M.2.2 v0 3) = 10) <|
  (f_X9_worthOf Γ M (M.2.2 v0 3) (M.2.1 (M.2.2 v0 5) 0)).bind fun r4 =>
  some r4
set_option maxHeartbeats 4000000 in
set_option maxRecDepth 100000 in
theorem b_X11_worth {E : rhE} {Γ : rhG} {M : rhM} : ∀ (v0 : Nat), rhF E 6 1 yX11_worth cX11_worth (some .int) Γ (rhe0I Γ M) (f_X11_worth Γ M v0) 0 [(0, rhR v0)] [] Γ M := by
  intro v0
  rw [f_X11_worth]
  refine rhF.aload_n (pc := 0) dX11_worth_0 0 rfl ?_
  refine rhF.ck (fun h1 => ?_)
  refine rhF.get (pc := 1) (rhR _) dX11_worth_1 fl_X11_23 h1 rfl ?_
  refine rhF.aload_n (pc := 4) dX11_worth_4 0 rfl ?_
  refine rhF.get (pc := 5) (rhR _) dX11_worth_5 fl_X11_33 h1 rfl ?_
  refine rhF.ck (fun h2 => ?_)
  refine rhF.get (pc := 8) (rhJ _) dX11_worth_8 fl_X11_207 h2 rfl ?_
  refine rhF.ck (fun h3 => ?_)
  refine rhF.callV (pc := 11) (ci := 9) (embc := rhe0I _ _) [rhJ _] dX11_worth_11 ml_X11_210 mv_X9_worthOf ⟨_, rfl, rfl⟩ h3 (c_X9_worthOf _ _ _ _ _) (by decide) (by decide) rfl (Nat.le_of_ble_eq_true rfl) (fun r4 _ => ?_)
  exact rhF.zret (pc := 14) dX11_worth_14 rfl rfl rfl
theorem c_X11_worth (E : rhE) (Γ : rhG) (M : rhM) (v0 : Nat) : ∀ a, f_X11_worth Γ M v0 = some a → rhC E 6 yX11_worth cX11_worth 1 (some .int) [rhR v0] Γ M ((rhe0I Γ M) a) := rhF.met (by decide +kernel) (Nat.le_of_ble_eq_true rfl) (b_X11_worth v0)
def f_X12_houseMany (Γ : rhG) (M : rhM) (v0 : Nat) : Option (Int32) :=
  rhck (Γ.2.2.1 v0 = 13) <|
  rhck (Γ.2.2.1 (M.2.2 v0 12) = 15) <|
  rhck (0 ≤ (M.1 v0 34).toInt ∧ (M.1 v0 34).toInt < (Γ.2.2.2 (M.2.2 v0 12) : Nat)) <|
  some (M.1 (M.2.2 v0 12) (M.1 v0 34).toNatClampNeg)
set_option maxHeartbeats 4000000 in
set_option maxRecDepth 100000 in
theorem b_X12_houseMany {E : rhE} {Γ : rhG} {M : rhM} : ∀ (v0 : Nat), rhF E 1 1 yX12_houseMany cX12_houseMany (some .int) Γ (rhe0I Γ M) (f_X12_houseMany Γ M v0) 0 [(0, rhR v0)] [] Γ M := by
  intro v0
  rw [f_X12_houseMany]
  refine rhF.aload_n (pc := 0) dX12_houseMany_0 0 rfl ?_
  refine rhF.ck (fun h1 => ?_)
  refine rhF.get (pc := 1) (rhR _) dX12_houseMany_1 fl_X12_24 h1 rfl ?_
  refine rhF.aload_n (pc := 4) dX12_houseMany_4 0 rfl ?_
  refine rhF.get (pc := 5) (rhI _) dX12_houseMany_5 fl_X12_327 h1 rfl ?_
  refine rhF.ck (fun h2 => ?_)
  refine rhF.ck (fun h3 => ?_)
  refine rhF.iald (pc := 8) dX12_houseMany_8 h2 h3 ?_
  exact rhF.zret (pc := 9) dX12_houseMany_9 rfl rfl rfl
theorem c_X12_houseMany (E : rhE) (Γ : rhG) (M : rhM) (v0 : Nat) : ∀ a, f_X12_houseMany Γ M v0 = some a → rhC E 1 yX12_houseMany cX12_houseMany 1 (some .int) [rhR v0] Γ M ((rhe0I Γ M) a) := rhF.met (by decide +kernel) (Nat.le_of_ble_eq_true rfl) (b_X12_houseMany v0)
def f_X12_railMany (Γ : rhG) (M : rhM) (v0 : Nat) : Option (Int32) :=
  rhck (Γ.2.2.1 v0 = 13) <|
  rhck (Γ.2.2.1 (M.2.2 v0 11) = 15) <|
  rhck (0 ≤ (M.1 v0 34).toInt ∧ (M.1 v0 34).toInt < (Γ.2.2.2 (M.2.2 v0 11) : Nat)) <|
  some (M.1 (M.2.2 v0 11) (M.1 v0 34).toNatClampNeg)
set_option maxHeartbeats 4000000 in
set_option maxRecDepth 100000 in
theorem b_X12_railMany {E : rhE} {Γ : rhG} {M : rhM} : ∀ (v0 : Nat), rhF E 1 1 yX12_railMany cX12_railMany (some .int) Γ (rhe0I Γ M) (f_X12_railMany Γ M v0) 0 [(0, rhR v0)] [] Γ M := by
  intro v0
  rw [f_X12_railMany]
  refine rhF.aload_n (pc := 0) dX12_railMany_0 0 rfl ?_
  refine rhF.ck (fun h1 => ?_)
  refine rhF.get (pc := 1) (rhR _) dX12_railMany_1 fl_X12_20 h1 rfl ?_
  refine rhF.aload_n (pc := 4) dX12_railMany_4 0 rfl ?_
  refine rhF.get (pc := 5) (rhI _) dX12_railMany_5 fl_X12_327 h1 rfl ?_
  refine rhF.ck (fun h2 => ?_)
  refine rhF.ck (fun h3 => ?_)
  refine rhF.iald (pc := 8) dX12_railMany_8 h2 h3 ?_
  exact rhF.zret (pc := 9) dX12_railMany_9 rfl rfl rfl
theorem c_X12_railMany (E : rhE) (Γ : rhG) (M : rhM) (v0 : Nat) : ∀ a, f_X12_railMany Γ M v0 = some a → rhC E 1 yX12_railMany cX12_railMany 1 (some .int) [rhR v0] Γ M ((rhe0I Γ M) a) := rhF.met (by decide +kernel) (Nat.le_of_ble_eq_true rfl) (b_X12_railMany v0)
def f_X12_about (Γ : rhG) (M : rhM) (v0 : Nat) (v1 : Int32) : Option (Int32) :=
  if v1 = 0 then
    (rhck (Γ.2.2.1 v0 = 13) <|
    (f_X12_houseMany Γ M v0).bind fun r3 =>
    some r3)
  else
  if v1 = 1 then
    (rhck (Γ.2.2.1 v0 = 13) <|
    (f_X12_railMany Γ M v0).bind fun r6 =>
    some r6)
  else
  if v1 = 2 then
    (rhck (Γ.2.2.1 v0 = 13) <|
    some (M.1 v0 48))
  else
  if v1 = 3 then
    (rhck (Γ.2.2.1 v0 = 13) <|
    some (M.1 v0 51))
  else
  if v1 = 4 then
    (rhck (Γ.2.2.1 v0 = 13) <|
    some (M.1 v0 53))
  else
  if v1 = 5 then
    (rhck (Γ.2.2.1 v0 = 13) <|
    some (M.1 v0 82))
  else
  if v1 = 6 then
    (rhck (Γ.2.2.1 v0 = 13) <|
    some (M.1 v0 83))
  else
  if v1 = 7 then
    (rhck (Γ.2.2.1 v0 = 13) <|
    some (M.1 v0 2))
  else
  if v1 = 8 then
    (rhck (Γ.2.2.1 v0 = 13) <|
    some (M.1 v0 49))
  else
  if v1 = 9 then
    (rhck (Γ.2.2.1 v0 = 13) <|
    rhck (Γ.2.2.1 (M.2.2 v0 14) = 15) <|
    rhck (0 ≤ (M.1 v0 34).toInt ∧ (M.1 v0 34).toInt < (Γ.2.2.2 (M.2.2 v0 14) : Nat)) <|
    some (M.1 (M.2.2 v0 14) (M.1 v0 34).toNatClampNeg))
  else
  if v1 = 10 then
    (rhck (Γ.2.2.1 v0 = 13) <|
    some (M.1 v0 66))
  else
  some ((-1))
set_option maxHeartbeats 4000000 in
set_option maxRecDepth 100000 in
theorem b_X12_about {E : rhE} {Γ : rhG} {M : rhM} : ∀ (v0 : Nat) (v1 : Int32), rhF E 5 2 yX12_about cX12_about (some .int) Γ (rhe0I Γ M) (f_X12_about Γ M v0 v1) 0 [(0, rhR v0), (1, rhI v1)] [] Γ M := by
  intro v0 v1
  rw [f_X12_about]
  refine rhF.iload_n (pc := 0) dX12_about_0 1 rfl ?_
  refine rhF.ite (fun h1 => ?_) (fun h1 => ?_)
  · refine rhF.tsIn (pc := 1) 60 0 dX12_about_1 (by rw [h1]; decide) (by decide) rfl (by decide) ?_
    refine rhF.aload_n (pc := 60) dX12_about_60 0 rfl ?_
    refine rhF.ck (fun h2 => ?_)
    refine rhF.callV (pc := 61) (ci := 12) (embc := rhe0I _ _) [] dX12_about_61 ml_X12_419 mv_X12_houseMany ⟨_, rfl, rfl⟩ h2 (c_X12_houseMany _ _ _ _) (by decide) (by decide) rfl (Nat.le_of_ble_eq_true rfl) (fun r3 _ => ?_)
    exact rhF.zret (pc := 64) dX12_about_64 rfl rfl rfl
  · skip
    refine rhF.ite (fun h4 => ?_) (fun h4 => ?_)
    · refine rhF.tsIn (pc := 1) 65 1 dX12_about_1 (by rw [h4]; decide) (by decide) rfl (by decide) ?_
      refine rhF.aload_n (pc := 65) dX12_about_65 0 rfl ?_
      refine rhF.ck (fun h5 => ?_)
      refine rhF.callV (pc := 66) (ci := 12) (embc := rhe0I _ _) [] dX12_about_66 ml_X12_412 mv_X12_railMany ⟨_, rfl, rfl⟩ h5 (c_X12_railMany _ _ _ _) (by decide) (by decide) rfl (Nat.le_of_ble_eq_true rfl) (fun r6 _ => ?_)
      exact rhF.zret (pc := 69) dX12_about_69 rfl rfl rfl
    · skip
      refine rhF.ite (fun h7 => ?_) (fun h7 => ?_)
      · refine rhF.tsIn (pc := 1) 70 2 dX12_about_1 (by rw [h7]; decide) (by decide) rfl (by decide) ?_
        refine rhF.aload_n (pc := 70) dX12_about_70 0 rfl ?_
        refine rhF.ck (fun h8 => ?_)
        refine rhF.get (pc := 71) (rhI _) dX12_about_71 fl_X12_458 h8 rfl ?_
        exact rhF.zret (pc := 74) dX12_about_74 rfl rfl rfl
      · skip
        refine rhF.ite (fun h9 => ?_) (fun h9 => ?_)
        · refine rhF.tsIn (pc := 1) 75 3 dX12_about_1 (by rw [h9]; decide) (by decide) rfl (by decide) ?_
          refine rhF.aload_n (pc := 75) dX12_about_75 0 rfl ?_
          refine rhF.ck (fun h10 => ?_)
          refine rhF.get (pc := 76) (rhI _) dX12_about_76 fl_X12_336 h10 rfl ?_
          exact rhF.zret (pc := 79) dX12_about_79 rfl rfl rfl
        · skip
          refine rhF.ite (fun h11 => ?_) (fun h11 => ?_)
          · refine rhF.tsIn (pc := 1) 80 4 dX12_about_1 (by rw [h11]; decide) (by decide) rfl (by decide) ?_
            refine rhF.aload_n (pc := 80) dX12_about_80 0 rfl ?_
            refine rhF.ck (fun h12 => ?_)
            refine rhF.get (pc := 81) (rhI _) dX12_about_81 fl_X12_339 h12 rfl ?_
            exact rhF.zret (pc := 84) dX12_about_84 rfl rfl rfl
          · skip
            refine rhF.ite (fun h13 => ?_) (fun h13 => ?_)
            · refine rhF.tsIn (pc := 1) 85 5 dX12_about_1 (by rw [h13]; decide) (by decide) rfl (by decide) ?_
              refine rhF.aload_n (pc := 85) dX12_about_85 0 rfl ?_
              refine rhF.ck (fun h14 => ?_)
              refine rhF.get (pc := 86) (rhI _) dX12_about_86 fl_X12_333 h14 rfl ?_
              exact rhF.zret (pc := 89) dX12_about_89 rfl rfl rfl
            · skip
              refine rhF.ite (fun h15 => ?_) (fun h15 => ?_)
              · refine rhF.tsIn (pc := 1) 90 6 dX12_about_1 (by rw [h15]; decide) (by decide) rfl (by decide) ?_
                refine rhF.aload_n (pc := 90) dX12_about_90 0 rfl ?_
                refine rhF.ck (fun h16 => ?_)
                refine rhF.get (pc := 91) (rhI _) dX12_about_91 fl_X12_555 h16 rfl ?_
                exact rhF.zret (pc := 94) dX12_about_94 rfl rfl rfl
              · skip
                refine rhF.ite (fun h17 => ?_) (fun h17 => ?_)
                · refine rhF.tsIn (pc := 1) 95 7 dX12_about_1 (by rw [h17]; decide) (by decide) rfl (by decide) ?_
                  refine rhF.aload_n (pc := 95) dX12_about_95 0 rfl ?_
                  refine rhF.ck (fun h18 => ?_)
                  refine rhF.get (pc := 96) (rhI _) dX12_about_96 fl_X12_324 h18 rfl ?_
                  exact rhF.zret (pc := 99) dX12_about_99 rfl rfl rfl
                · skip
                  refine rhF.ite (fun h19 => ?_) (fun h19 => ?_)
                  · refine rhF.tsIn (pc := 1) 100 8 dX12_about_1 (by rw [h19]; decide) (by decide) rfl (by decide) ?_
                    refine rhF.aload_n (pc := 100) dX12_about_100 0 rfl ?_
                    refine rhF.ck (fun h20 => ?_)
                    refine rhF.get (pc := 101) (rhI _) dX12_about_101 fl_X12_461 h20 rfl ?_
                    exact rhF.zret (pc := 104) dX12_about_104 rfl rfl rfl
                  · skip
                    refine rhF.ite (fun h21 => ?_) (fun h21 => ?_)
                    · refine rhF.tsIn (pc := 1) 105 9 dX12_about_1 (by rw [h21]; decide) (by decide) rfl (by decide) ?_
                      refine rhF.aload_n (pc := 105) dX12_about_105 0 rfl ?_
                      refine rhF.ck (fun h22 => ?_)
                      refine rhF.get (pc := 106) (rhR _) dX12_about_106 fl_X12_30 h22 rfl ?_
                      refine rhF.aload_n (pc := 109) dX12_about_109 0 rfl ?_
                      refine rhF.get (pc := 110) (rhI _) dX12_about_110 fl_X12_327 h22 rfl ?_
                      refine rhF.ck (fun h23 => ?_)
                      refine rhF.ck (fun h24 => ?_)
                      refine rhF.iald (pc := 113) dX12_about_113 h23 h24 ?_
                      exact rhF.zret (pc := 114) dX12_about_114 rfl rfl rfl
                    · skip
                      refine rhF.ite (fun h25 => ?_) (fun h25 => ?_)
                      · refine rhF.tsIn (pc := 1) 115 10 dX12_about_1 (by rw [h25]; decide) (by decide) rfl (by decide) ?_
                        refine rhF.aload_n (pc := 115) dX12_about_115 0 rfl ?_
                        refine rhF.ck (fun h26 => ?_)
                        refine rhF.get (pc := 116) (rhI _) dX12_about_116 fl_X12_342 h26 rfl ?_
                        exact rhF.zret (pc := 119) dX12_about_119 rfl rfl rfl
                      · skip
                        have zh1 := rhne h1 (n := 0) (by decide)
                        have zh4 := rhne h4 (n := 1) (by decide)
                        have zh7 := rhne h7 (n := 2) (by decide)
                        have zh9 := rhne h9 (n := 3) (by decide)
                        have zh11 := rhne h11 (n := 4) (by decide)
                        have zh13 := rhne h13 (n := 5) (by decide)
                        have zh15 := rhne h15 (n := 6) (by decide)
                        have zh17 := rhne h17 (n := 7) (by decide)
                        have zh19 := rhne h19 (n := 8) (by decide)
                        have zh21 := rhne h21 (n := 9) (by decide)
                        have zh25 := rhne h25 (n := 10) (by decide)
                        refine rhF.tsOut (pc := 1) 120 dX12_about_1 (by omega) (by decide) ?_
                        refine rhF.iconst (pc := 120) (v := (-1)) dX12_about_120 (by decide) ?_
                        exact rhF.zret (pc := 121) dX12_about_121 rfl rfl rfl
theorem c_X12_about (E : rhE) (Γ : rhG) (M : rhM) (v0 : Nat) (v1 : Int32) : ∀ a, f_X12_about Γ M v0 v1 = some a → rhC E 5 yX12_about cX12_about 2 (some .int) [rhR v0, rhI v1] Γ M ((rhe0I Γ M) a) := rhF.met (by decide +kernel) (Nat.le_of_ble_eq_true rfl) (b_X12_about v0 v1)
def f_X12_isWord (Γ : rhG) (M : rhM) (v0 : Nat) (v1 : Int64) : Option (Int32) :=
  rhck (Γ.2.2.1 v0 = 13) <|
  if (M.1 v0 8) = 3 then
    (if (M.2.1 v0 10) = v1 then
      (some 1)
    else
      some 0)
  else
    some 0
set_option maxHeartbeats 4000000 in
set_option maxRecDepth 100000 in
theorem b_X12_isWord {E : rhE} {Γ : rhG} {M : rhM} : ∀ (v0 : Nat) (v1 : Int64), rhF E 1 3 yX12_isWord cX12_isWord (some .boolean) Γ (rhe0I Γ M) (f_X12_isWord Γ M v0 v1) 0 [(0, rhR v0), (1, rhJ v1)] [] Γ M := by
  intro v0 v1
  rw [f_X12_isWord]
  refine rhF.aload_n (pc := 0) dX12_isWord_0 0 rfl ?_
  refine rhF.ck (fun h1 => ?_)
  refine rhF.get (pc := 1) (rhI _) dX12_isWord_1 fl_X12_266 h1 rfl ?_
  refine rhF.iconst (pc := 4) (v := 3) dX12_isWord_4 (by decide) ?_
  refine rhF.icmp_ne (pc := 5) 21 dX12_isWord_5 (by decide) (fun h2 => ?_) (fun h2 => ?_)
  · refine rhF.aload_n (pc := 8) dX12_isWord_8 0 rfl ?_
    refine rhF.get (pc := 9) (rhJ _) dX12_isWord_9 fl_X12_273 h1 rfl ?_
    refine rhF.lload_n (pc := 12) dX12_isWord_12 1 rfl ?_
    refine rhF.lcne (pc := 13) 21 dX12_isWord_13 dX12_isWord_14 (by decide) (fun h3 => ?_) (fun h3 => ?_)
    · refine rhF.iconst (pc := 17) (v := 1) dX12_isWord_17 (by decide) ?_
      refine rhF.goto (pc := 18) 22 dX12_isWord_18 (by decide) ?_
      exact rhF.zret (pc := 22) dX12_isWord_22 rfl rfl rfl
    · refine rhF.iconst (pc := 21) (v := 0) dX12_isWord_21 (by decide) ?_
      exact rhF.zret (pc := 22) dX12_isWord_22 rfl rfl rfl
  · refine rhF.iconst (pc := 21) (v := 0) dX12_isWord_21 (by decide) ?_
    exact rhF.zret (pc := 22) dX12_isWord_22 rfl rfl rfl
theorem c_X12_isWord (E : rhE) (Γ : rhG) (M : rhM) (v0 : Nat) (v1 : Int64) : ∀ a, f_X12_isWord Γ M v0 v1 = some a → rhC E 1 yX12_isWord cX12_isWord 3 (some .boolean) [rhR v0, rhJ v1] Γ M ((rhe0I Γ M) a) := rhF.met (by decide +kernel) (Nat.le_of_ble_eq_true rfl) (b_X12_isWord v0 v1)
def f_X12_isDigit (Γ : rhG) (M : rhM) (v0 : Int32) : Option (Int32) :=
  if v0 < 48 then
    (some 0)
  else
    if 57 < v0 then
      (some 0)
    else
      some 1
set_option maxHeartbeats 4000000 in
set_option maxRecDepth 100000 in
theorem b_X12_isDigit {E : rhE} {Γ : rhG} {M : rhM} : ∀ (v0 : Int32), rhF E 1 1 yX12_isDigit cX12_isDigit (some .boolean) Γ (rhe0I Γ M) (f_X12_isDigit Γ M v0) 0 [(0, rhI v0)] [] Γ M := by
  intro v0
  rw [f_X12_isDigit]
  refine rhF.iload_n (pc := 0) dX12_isDigit_0 0 rfl ?_
  refine rhF.bipush (pc := 1) (v := 48) dX12_isDigit_1 (by decide) ?_
  refine rhF.icmp_lt (pc := 3) 16 dX12_isDigit_3 (by decide) (fun h1 => ?_) (fun h1 => ?_)
  · refine rhF.iconst (pc := 16) (v := 0) dX12_isDigit_16 (by decide) ?_
    exact rhF.zret (pc := 17) dX12_isDigit_17 rfl rfl rfl
  · refine rhF.iload_n (pc := 6) dX12_isDigit_6 0 rfl ?_
    refine rhF.bipush (pc := 7) (v := 57) dX12_isDigit_7 (by decide) ?_
    refine rhF.icmp_gt (pc := 9) 16 dX12_isDigit_9 (by decide) (fun h2 => ?_) (fun h2 => ?_)
    · refine rhF.iconst (pc := 16) (v := 0) dX12_isDigit_16 (by decide) ?_
      exact rhF.zret (pc := 17) dX12_isDigit_17 rfl rfl rfl
    · refine rhF.iconst (pc := 12) (v := 1) dX12_isDigit_12 (by decide) ?_
      refine rhF.goto (pc := 13) 17 dX12_isDigit_13 (by decide) ?_
      exact rhF.zret (pc := 17) dX12_isDigit_17 rfl rfl rfl
theorem c_X12_isDigit (E : rhE) (Γ : rhG) (M : rhM) (v0 : Int32) : ∀ a, f_X12_isDigit Γ M v0 = some a → rhC E 1 yX12_isDigit cX12_isDigit 1 (some .boolean) [rhI v0] Γ M ((rhe0I Γ M) a) := rhF.met (by decide +kernel) (Nat.le_of_ble_eq_true rfl) (b_X12_isDigit v0)
def f_X12_isKept_72 (k77 : Int64 → Int32 → Option (Int32)) (Γ : rhG) (M : rhM) (v0 : Int64) : Option (Int32) :=
  k77 v0 1
def f_X12_isKept_77 (Γ : rhG) (M : rhM) (v0 : Int64) (s0 : Int32) : Option (Int32) :=
  if s0 = 0 then
    (if v0 = ((7102839 : Int64)) then
      (some 1)
    else
      if v0 = ((1835101817 : Int64)) then
        (some 1)
      else
        if v0 = ((1718775661 : Int64)) then
          (some 1)
        else
          if v0 = ((29807 : Int64)) then
            (some 1)
          else
            if v0 = ((1919905645 : Int64)) then
              (some 1)
            else
              if v0 = ((499850634611 : Int64)) then
                (some 1)
              else
                if v0 = ((6385252 : Int64)) then
                  (some 1)
                else
                  if v0 = ((28530 : Int64)) then
                    (some 1)
                  else
                    if v0 = ((7237492 : Int64)) then
                      (some 1)
                    else
                      some 0)
  else
    some 1
def f_X12_isKept (Γ : rhG) (M : rhM) (v0 : Int64) : Option (Int32) :=
  if v0 = ((1918986604 : Int64)) then
    (f_X12_isKept_72 (f_X12_isKept_77 Γ M) Γ M v0)
  else
    if v0 = ((119182899770472 : Int64)) then
      (f_X12_isKept_72 (f_X12_isKept_77 Γ M) Γ M v0)
    else
      if v0 = ((448546567013 : Int64)) then
        (f_X12_isKept_72 (f_X12_isKept_77 Γ M) Γ M v0)
      else
        if v0 = ((131277443786868 : Int64)) then
          (f_X12_isKept_72 (f_X12_isKept_77 Γ M) Γ M v0)
        else
          if v0 = ((28526 : Int64)) then
            (f_X12_isKept_72 (f_X12_isKept_77 Γ M) Γ M v0)
          else
            if v0 = ((108187867505765 : Int64)) then
              (f_X12_isKept_72 (f_X12_isKept_77 Γ M) Γ M v0)
            else
              if v0 = ((512970880104 : Int64)) then
                (f_X12_isKept_72 (f_X12_isKept_77 Γ M) Γ M v0)
              else
                if v0 = ((1852138347 : Int64)) then
                  (f_X12_isKept_72 (f_X12_isKept_77 Γ M) Γ M v0)
                else
                  if v0 = ((431415719795 : Int64)) then
                    (f_X12_isKept_72 (f_X12_isKept_77 Γ M) Γ M v0)
                  else
                    f_X12_isKept_77 Γ M v0 0
set_option maxHeartbeats 4000000 in
set_option maxRecDepth 100000 in
theorem b_X12_isKept_72 {E : rhE} {Γ : rhG} {M : rhM} {k77 : Int64 → Int32 → Option (Int32)} (hk77 : ∀ (v0 : Int64) (s0 : Int32), rhF E 1 3 yX12_isKept cX12_isKept (some .boolean) Γ (rhe0I Γ M) (k77 v0 s0) 77 [(0, rhJ v0)] [rhI s0] Γ M) : ∀ (v0 : Int64), rhF E 1 3 yX12_isKept cX12_isKept (some .boolean) Γ (rhe0I Γ M) (f_X12_isKept_72 k77 Γ M v0) 72 [(0, rhJ v0)] [] Γ M := by
  intro v0
  rw [f_X12_isKept_72]
  refine rhF.iconst (pc := 72) (v := 1) dX12_isKept_72 (by decide) ?_
  refine rhF.goto (pc := 73) 77 dX12_isKept_73 (by decide) ?_
  exact hk77 _ _
set_option maxHeartbeats 4000000 in
set_option maxRecDepth 100000 in
theorem b_X12_isKept_77 {E : rhE} {Γ : rhG} {M : rhM} : ∀ (v0 : Int64) (s0 : Int32), rhF E 1 3 yX12_isKept cX12_isKept (some .boolean) Γ (rhe0I Γ M) (f_X12_isKept_77 Γ M v0 s0) 77 [(0, rhJ v0)] [rhI s0] Γ M := by
  intro v0 s0
  rw [f_X12_isKept_77]
  refine rhF.istore_n (pc := 77) (L' := [(2, rhI _), (0, rhJ _)]) dX12_isKept_77 (by decide) rfl ?_
  refine rhF.iload_n (pc := 78) dX12_isKept_78 0 rfl ?_
  refine rhF.if_ne (pc := 79) 154 dX12_isKept_79 (by decide) (fun h2 => ?_) (fun h2 => ?_)
  · refine rhF.lload_n (pc := 82) dX12_isKept_82 1 rfl ?_
    refine rhF.ldc2 (pc := 83) dX12_isKept_83 k_X12_238 ?_
    refine rhF.lceq (pc := 86) 154 dX12_isKept_86 dX12_isKept_87 (by decide) (fun h3 => ?_) (fun h3 => ?_)
    · refine rhF.iconst (pc := 154) (v := 1) dX12_isKept_154 (by decide) ?_
      refine rhF.goto (pc := 155) 159 dX12_isKept_155 (by decide) ?_
      exact rhF.zret (pc := 159) dX12_isKept_159 rfl rfl rfl
    · refine rhF.lload_n (pc := 90) dX12_isKept_90 1 rfl ?_
      refine rhF.ldc2 (pc := 91) dX12_isKept_91 k_X12_240 ?_
      refine rhF.lceq (pc := 94) 154 dX12_isKept_94 dX12_isKept_95 (by decide) (fun h4 => ?_) (fun h4 => ?_)
      · refine rhF.iconst (pc := 154) (v := 1) dX12_isKept_154 (by decide) ?_
        refine rhF.goto (pc := 155) 159 dX12_isKept_155 (by decide) ?_
        exact rhF.zret (pc := 159) dX12_isKept_159 rfl rfl rfl
      · refine rhF.lload_n (pc := 98) dX12_isKept_98 1 rfl ?_
        refine rhF.ldc2 (pc := 99) dX12_isKept_99 k_X12_242 ?_
        refine rhF.lceq (pc := 102) 154 dX12_isKept_102 dX12_isKept_103 (by decide) (fun h5 => ?_) (fun h5 => ?_)
        · refine rhF.iconst (pc := 154) (v := 1) dX12_isKept_154 (by decide) ?_
          refine rhF.goto (pc := 155) 159 dX12_isKept_155 (by decide) ?_
          exact rhF.zret (pc := 159) dX12_isKept_159 rfl rfl rfl
        · refine rhF.lload_n (pc := 106) dX12_isKept_106 1 rfl ?_
          refine rhF.ldc2 (pc := 107) dX12_isKept_107 k_X12_244 ?_
          refine rhF.lceq (pc := 110) 154 dX12_isKept_110 dX12_isKept_111 (by decide) (fun h6 => ?_) (fun h6 => ?_)
          · refine rhF.iconst (pc := 154) (v := 1) dX12_isKept_154 (by decide) ?_
            refine rhF.goto (pc := 155) 159 dX12_isKept_155 (by decide) ?_
            exact rhF.zret (pc := 159) dX12_isKept_159 rfl rfl rfl
          · refine rhF.lload_n (pc := 114) dX12_isKept_114 1 rfl ?_
            refine rhF.ldc2 (pc := 115) dX12_isKept_115 k_X12_246 ?_
            refine rhF.lceq (pc := 118) 154 dX12_isKept_118 dX12_isKept_119 (by decide) (fun h7 => ?_) (fun h7 => ?_)
            · refine rhF.iconst (pc := 154) (v := 1) dX12_isKept_154 (by decide) ?_
              refine rhF.goto (pc := 155) 159 dX12_isKept_155 (by decide) ?_
              exact rhF.zret (pc := 159) dX12_isKept_159 rfl rfl rfl
            · refine rhF.lload_n (pc := 122) dX12_isKept_122 1 rfl ?_
              refine rhF.ldc2 (pc := 123) dX12_isKept_123 k_X12_248 ?_
              refine rhF.lceq (pc := 126) 154 dX12_isKept_126 dX12_isKept_127 (by decide) (fun h8 => ?_) (fun h8 => ?_)
              · refine rhF.iconst (pc := 154) (v := 1) dX12_isKept_154 (by decide) ?_
                refine rhF.goto (pc := 155) 159 dX12_isKept_155 (by decide) ?_
                exact rhF.zret (pc := 159) dX12_isKept_159 rfl rfl rfl
              · refine rhF.lload_n (pc := 130) dX12_isKept_130 1 rfl ?_
                refine rhF.ldc2 (pc := 131) dX12_isKept_131 k_X12_250 ?_
                refine rhF.lceq (pc := 134) 154 dX12_isKept_134 dX12_isKept_135 (by decide) (fun h9 => ?_) (fun h9 => ?_)
                · refine rhF.iconst (pc := 154) (v := 1) dX12_isKept_154 (by decide) ?_
                  refine rhF.goto (pc := 155) 159 dX12_isKept_155 (by decide) ?_
                  exact rhF.zret (pc := 159) dX12_isKept_159 rfl rfl rfl
                · refine rhF.lload_n (pc := 138) dX12_isKept_138 1 rfl ?_
                  refine rhF.ldc2 (pc := 139) dX12_isKept_139 k_X12_252 ?_
                  refine rhF.lceq (pc := 142) 154 dX12_isKept_142 dX12_isKept_143 (by decide) (fun h10 => ?_) (fun h10 => ?_)
                  · refine rhF.iconst (pc := 154) (v := 1) dX12_isKept_154 (by decide) ?_
                    refine rhF.goto (pc := 155) 159 dX12_isKept_155 (by decide) ?_
                    exact rhF.zret (pc := 159) dX12_isKept_159 rfl rfl rfl
                  · refine rhF.lload_n (pc := 146) dX12_isKept_146 1 rfl ?_
                    refine rhF.ldc2 (pc := 147) dX12_isKept_147 k_X12_254 ?_
                    refine rhF.lcne (pc := 150) 158 dX12_isKept_150 dX12_isKept_151 (by decide) (fun h11 => ?_) (fun h11 => ?_)
                    · refine rhF.iconst (pc := 154) (v := 1) dX12_isKept_154 (by decide) ?_
                      refine rhF.goto (pc := 155) 159 dX12_isKept_155 (by decide) ?_
                      exact rhF.zret (pc := 159) dX12_isKept_159 rfl rfl rfl
                    · refine rhF.iconst (pc := 158) (v := 0) dX12_isKept_158 (by decide) ?_
                      exact rhF.zret (pc := 159) dX12_isKept_159 rfl rfl rfl
  · refine rhF.iconst (pc := 154) (v := 1) dX12_isKept_154 (by decide) ?_
    refine rhF.goto (pc := 155) 159 dX12_isKept_155 (by decide) ?_
    exact rhF.zret (pc := 159) dX12_isKept_159 rfl rfl rfl
set_option maxHeartbeats 4000000 in
set_option maxRecDepth 100000 in
theorem b_X12_isKept {E : rhE} {Γ : rhG} {M : rhM} : ∀ (v0 : Int64), rhF E 1 3 yX12_isKept cX12_isKept (some .boolean) Γ (rhe0I Γ M) (f_X12_isKept Γ M v0) 0 [(0, rhJ v0)] [] Γ M := by
  intro v0
  rw [f_X12_isKept]
  refine rhF.lload_n (pc := 0) dX12_isKept_0 0 rfl ?_
  refine rhF.ldc2 (pc := 1) dX12_isKept_1 k_X12_220 ?_
  refine rhF.lceq (pc := 4) 72 dX12_isKept_4 dX12_isKept_5 (by decide) (fun h1 => ?_) (fun h1 => ?_)
  · exact (b_X12_isKept_72 (b_X12_isKept_77)) _
  · refine rhF.lload_n (pc := 8) dX12_isKept_8 0 rfl ?_
    refine rhF.ldc2 (pc := 9) dX12_isKept_9 k_X12_222 ?_
    refine rhF.lceq (pc := 12) 72 dX12_isKept_12 dX12_isKept_13 (by decide) (fun h12 => ?_) (fun h12 => ?_)
    · exact (b_X12_isKept_72 (b_X12_isKept_77)) _
    · refine rhF.lload_n (pc := 16) dX12_isKept_16 0 rfl ?_
      refine rhF.ldc2 (pc := 17) dX12_isKept_17 k_X12_224 ?_
      refine rhF.lceq (pc := 20) 72 dX12_isKept_20 dX12_isKept_21 (by decide) (fun h13 => ?_) (fun h13 => ?_)
      · exact (b_X12_isKept_72 (b_X12_isKept_77)) _
      · refine rhF.lload_n (pc := 24) dX12_isKept_24 0 rfl ?_
        refine rhF.ldc2 (pc := 25) dX12_isKept_25 k_X12_226 ?_
        refine rhF.lceq (pc := 28) 72 dX12_isKept_28 dX12_isKept_29 (by decide) (fun h14 => ?_) (fun h14 => ?_)
        · exact (b_X12_isKept_72 (b_X12_isKept_77)) _
        · refine rhF.lload_n (pc := 32) dX12_isKept_32 0 rfl ?_
          refine rhF.ldc2 (pc := 33) dX12_isKept_33 k_X12_228 ?_
          refine rhF.lceq (pc := 36) 72 dX12_isKept_36 dX12_isKept_37 (by decide) (fun h15 => ?_) (fun h15 => ?_)
          · exact (b_X12_isKept_72 (b_X12_isKept_77)) _
          · refine rhF.lload_n (pc := 40) dX12_isKept_40 0 rfl ?_
            refine rhF.ldc2 (pc := 41) dX12_isKept_41 k_X12_230 ?_
            refine rhF.lceq (pc := 44) 72 dX12_isKept_44 dX12_isKept_45 (by decide) (fun h16 => ?_) (fun h16 => ?_)
            · exact (b_X12_isKept_72 (b_X12_isKept_77)) _
            · refine rhF.lload_n (pc := 48) dX12_isKept_48 0 rfl ?_
              refine rhF.ldc2 (pc := 49) dX12_isKept_49 k_X12_232 ?_
              refine rhF.lceq (pc := 52) 72 dX12_isKept_52 dX12_isKept_53 (by decide) (fun h17 => ?_) (fun h17 => ?_)
              · exact (b_X12_isKept_72 (b_X12_isKept_77)) _
              · refine rhF.lload_n (pc := 56) dX12_isKept_56 0 rfl ?_
                refine rhF.ldc2 (pc := 57) dX12_isKept_57 k_X12_234 ?_
                refine rhF.lceq (pc := 60) 72 dX12_isKept_60 dX12_isKept_61 (by decide) (fun h18 => ?_) (fun h18 => ?_)
                · exact (b_X12_isKept_72 (b_X12_isKept_77)) _
                · refine rhF.lload_n (pc := 64) dX12_isKept_64 0 rfl ?_
                  refine rhF.ldc2 (pc := 65) dX12_isKept_65 k_X12_236 ?_
                  refine rhF.lcne (pc := 68) 76 dX12_isKept_68 dX12_isKept_69 (by decide) (fun h19 => ?_) (fun h19 => ?_)
                  · exact (b_X12_isKept_72 (b_X12_isKept_77)) _
                  · refine rhF.iconst (pc := 76) (v := 0) dX12_isKept_76 (by decide) ?_
                    exact (b_X12_isKept_77) _ _
theorem c_X12_isKept (E : rhE) (Γ : rhG) (M : rhM) (v0 : Int64) : ∀ a, f_X12_isKept Γ M v0 = some a → rhC E 1 yX12_isKept cX12_isKept 3 (some .boolean) [rhJ v0] Γ M ((rhe0I Γ M) a) := rhF.met (by decide +kernel) (Nat.le_of_ble_eq_true rfl) (b_X12_isKept v0)
def f_X12_isLetter (Γ : rhG) (M : rhM) (v0 : Int32) : Option (Int32) :=
  if v0 < 97 then
    (some 0)
  else
    if 122 < v0 then
      (some 0)
    else
      some 1
set_option maxHeartbeats 4000000 in
set_option maxRecDepth 100000 in
theorem b_X12_isLetter {E : rhE} {Γ : rhG} {M : rhM} : ∀ (v0 : Int32), rhF E 1 1 yX12_isLetter cX12_isLetter (some .boolean) Γ (rhe0I Γ M) (f_X12_isLetter Γ M v0) 0 [(0, rhI v0)] [] Γ M := by
  intro v0
  rw [f_X12_isLetter]
  refine rhF.iload_n (pc := 0) dX12_isLetter_0 0 rfl ?_
  refine rhF.bipush (pc := 1) (v := 97) dX12_isLetter_1 (by decide) ?_
  refine rhF.icmp_lt (pc := 3) 16 dX12_isLetter_3 (by decide) (fun h1 => ?_) (fun h1 => ?_)
  · refine rhF.iconst (pc := 16) (v := 0) dX12_isLetter_16 (by decide) ?_
    exact rhF.zret (pc := 17) dX12_isLetter_17 rfl rfl rfl
  · refine rhF.iload_n (pc := 6) dX12_isLetter_6 0 rfl ?_
    refine rhF.bipush (pc := 7) (v := 122) dX12_isLetter_7 (by decide) ?_
    refine rhF.icmp_gt (pc := 9) 16 dX12_isLetter_9 (by decide) (fun h2 => ?_) (fun h2 => ?_)
    · refine rhF.iconst (pc := 16) (v := 0) dX12_isLetter_16 (by decide) ?_
      exact rhF.zret (pc := 17) dX12_isLetter_17 rfl rfl rfl
    · refine rhF.iconst (pc := 12) (v := 1) dX12_isLetter_12 (by decide) ?_
      refine rhF.goto (pc := 13) 17 dX12_isLetter_13 (by decide) ?_
      exact rhF.zret (pc := 17) dX12_isLetter_17 rfl rfl rfl
theorem c_X12_isLetter (E : rhE) (Γ : rhG) (M : rhM) (v0 : Int32) : ∀ a, f_X12_isLetter Γ M v0 = some a → rhC E 1 yX12_isLetter cX12_isLetter 1 (some .boolean) [rhI v0] Γ M ((rhe0I Γ M) a) := rhF.met (by decide +kernel) (Nat.le_of_ble_eq_true rfl) (b_X12_isLetter v0)
def f_X12_isSign (Γ : rhG) (M : rhM) (v0 : Int32) : Option (Int32) :=
  if v0 = 59 then
    (some 1)
  else
    if v0 = 40 then
      (some 1)
    else
      if v0 = 41 then
        (some 1)
      else
        if v0 = 60 then
          (some 1)
        else
          if v0 = 62 then
            (some 1)
          else
            if v0 = 61 then
              (some 1)
            else
              if v0 = 43 then
                (some 1)
              else
                if v0 = 45 then
                  (some 1)
                else
                  if v0 = 42 then
                    (some 1)
                  else
                    if v0 = 47 then
                      (some 1)
                    else
                      some 0
set_option maxHeartbeats 4000000 in
set_option maxRecDepth 100000 in
theorem b_X12_isSign {E : rhE} {Γ : rhG} {M : rhM} : ∀ (v0 : Int32), rhF E 1 1 yX12_isSign cX12_isSign (some .boolean) Γ (rhe0I Γ M) (f_X12_isSign Γ M v0) 0 [(0, rhI v0)] [] Γ M := by
  intro v0
  rw [f_X12_isSign]
  refine rhF.iload_n (pc := 0) dX12_isSign_0 0 rfl ?_
  refine rhF.bipush (pc := 1) (v := 59) dX12_isSign_1 (by decide) ?_
  refine rhF.icmp_eq (pc := 3) 60 dX12_isSign_3 (by decide) (fun h1 => ?_) (fun h1 => ?_)
  · refine rhF.iconst (pc := 60) (v := 1) dX12_isSign_60 (by decide) ?_
    refine rhF.goto (pc := 61) 65 dX12_isSign_61 (by decide) ?_
    exact rhF.zret (pc := 65) dX12_isSign_65 rfl rfl rfl
  · refine rhF.iload_n (pc := 6) dX12_isSign_6 0 rfl ?_
    refine rhF.bipush (pc := 7) (v := 40) dX12_isSign_7 (by decide) ?_
    refine rhF.icmp_eq (pc := 9) 60 dX12_isSign_9 (by decide) (fun h2 => ?_) (fun h2 => ?_)
    · refine rhF.iconst (pc := 60) (v := 1) dX12_isSign_60 (by decide) ?_
      refine rhF.goto (pc := 61) 65 dX12_isSign_61 (by decide) ?_
      exact rhF.zret (pc := 65) dX12_isSign_65 rfl rfl rfl
    · refine rhF.iload_n (pc := 12) dX12_isSign_12 0 rfl ?_
      refine rhF.bipush (pc := 13) (v := 41) dX12_isSign_13 (by decide) ?_
      refine rhF.icmp_eq (pc := 15) 60 dX12_isSign_15 (by decide) (fun h3 => ?_) (fun h3 => ?_)
      · refine rhF.iconst (pc := 60) (v := 1) dX12_isSign_60 (by decide) ?_
        refine rhF.goto (pc := 61) 65 dX12_isSign_61 (by decide) ?_
        exact rhF.zret (pc := 65) dX12_isSign_65 rfl rfl rfl
      · refine rhF.iload_n (pc := 18) dX12_isSign_18 0 rfl ?_
        refine rhF.bipush (pc := 19) (v := 60) dX12_isSign_19 (by decide) ?_
        refine rhF.icmp_eq (pc := 21) 60 dX12_isSign_21 (by decide) (fun h4 => ?_) (fun h4 => ?_)
        · refine rhF.iconst (pc := 60) (v := 1) dX12_isSign_60 (by decide) ?_
          refine rhF.goto (pc := 61) 65 dX12_isSign_61 (by decide) ?_
          exact rhF.zret (pc := 65) dX12_isSign_65 rfl rfl rfl
        · refine rhF.iload_n (pc := 24) dX12_isSign_24 0 rfl ?_
          refine rhF.bipush (pc := 25) (v := 62) dX12_isSign_25 (by decide) ?_
          refine rhF.icmp_eq (pc := 27) 60 dX12_isSign_27 (by decide) (fun h5 => ?_) (fun h5 => ?_)
          · refine rhF.iconst (pc := 60) (v := 1) dX12_isSign_60 (by decide) ?_
            refine rhF.goto (pc := 61) 65 dX12_isSign_61 (by decide) ?_
            exact rhF.zret (pc := 65) dX12_isSign_65 rfl rfl rfl
          · refine rhF.iload_n (pc := 30) dX12_isSign_30 0 rfl ?_
            refine rhF.bipush (pc := 31) (v := 61) dX12_isSign_31 (by decide) ?_
            refine rhF.icmp_eq (pc := 33) 60 dX12_isSign_33 (by decide) (fun h6 => ?_) (fun h6 => ?_)
            · refine rhF.iconst (pc := 60) (v := 1) dX12_isSign_60 (by decide) ?_
              refine rhF.goto (pc := 61) 65 dX12_isSign_61 (by decide) ?_
              exact rhF.zret (pc := 65) dX12_isSign_65 rfl rfl rfl
            · refine rhF.iload_n (pc := 36) dX12_isSign_36 0 rfl ?_
              refine rhF.bipush (pc := 37) (v := 43) dX12_isSign_37 (by decide) ?_
              refine rhF.icmp_eq (pc := 39) 60 dX12_isSign_39 (by decide) (fun h7 => ?_) (fun h7 => ?_)
              · refine rhF.iconst (pc := 60) (v := 1) dX12_isSign_60 (by decide) ?_
                refine rhF.goto (pc := 61) 65 dX12_isSign_61 (by decide) ?_
                exact rhF.zret (pc := 65) dX12_isSign_65 rfl rfl rfl
              · refine rhF.iload_n (pc := 42) dX12_isSign_42 0 rfl ?_
                refine rhF.bipush (pc := 43) (v := 45) dX12_isSign_43 (by decide) ?_
                refine rhF.icmp_eq (pc := 45) 60 dX12_isSign_45 (by decide) (fun h8 => ?_) (fun h8 => ?_)
                · refine rhF.iconst (pc := 60) (v := 1) dX12_isSign_60 (by decide) ?_
                  refine rhF.goto (pc := 61) 65 dX12_isSign_61 (by decide) ?_
                  exact rhF.zret (pc := 65) dX12_isSign_65 rfl rfl rfl
                · refine rhF.iload_n (pc := 48) dX12_isSign_48 0 rfl ?_
                  refine rhF.bipush (pc := 49) (v := 42) dX12_isSign_49 (by decide) ?_
                  refine rhF.icmp_eq (pc := 51) 60 dX12_isSign_51 (by decide) (fun h9 => ?_) (fun h9 => ?_)
                  · refine rhF.iconst (pc := 60) (v := 1) dX12_isSign_60 (by decide) ?_
                    refine rhF.goto (pc := 61) 65 dX12_isSign_61 (by decide) ?_
                    exact rhF.zret (pc := 65) dX12_isSign_65 rfl rfl rfl
                  · refine rhF.iload_n (pc := 54) dX12_isSign_54 0 rfl ?_
                    refine rhF.bipush (pc := 55) (v := 47) dX12_isSign_55 (by decide) ?_
                    refine rhF.icmp_ne (pc := 57) 64 dX12_isSign_57 (by decide) (fun h10 => ?_) (fun h10 => ?_)
                    · refine rhF.iconst (pc := 60) (v := 1) dX12_isSign_60 (by decide) ?_
                      refine rhF.goto (pc := 61) 65 dX12_isSign_61 (by decide) ?_
                      exact rhF.zret (pc := 65) dX12_isSign_65 rfl rfl rfl
                    · refine rhF.iconst (pc := 64) (v := 0) dX12_isSign_64 (by decide) ?_
                      exact rhF.zret (pc := 65) dX12_isSign_65 rfl rfl rfl
theorem c_X12_isSign (E : rhE) (Γ : rhG) (M : rhM) (v0 : Int32) : ∀ a, f_X12_isSign Γ M v0 = some a → rhC E 1 yX12_isSign cX12_isSign 1 (some .boolean) [rhI v0] Γ M ((rhe0I Γ M) a) := rhF.met (by decide +kernel) (Nat.le_of_ble_eq_true rfl) (b_X12_isSign v0)
def f_X12_sign (Γ : rhG) (M : rhM) (v0 : Nat) (v1 : Int32) : Option (Int32) :=
  rhck (Γ.2.2.1 v0 = 13) <|
  if v1 < (M.1 v0 3) then
    (rhck (Γ.2.2.1 (M.2.2 v0 1) = 14) <|
    rhck (0 ≤ (v1).toInt ∧ (v1).toInt < (Γ.2.2.2 (M.2.2 v0 1) : Nat)) <|
    some ((M.1 (M.2.2 v0 1) v1.toNatClampNeg) &&& 255))
  else
    some 0
set_option maxHeartbeats 4000000 in
set_option maxRecDepth 100000 in
theorem b_X12_sign {E : rhE} {Γ : rhG} {M : rhM} : ∀ (v0 : Nat) (v1 : Int32), rhF E 1 2 yX12_sign cX12_sign (some .int) Γ (rhe0I Γ M) (f_X12_sign Γ M v0 v1) 0 [(0, rhR v0), (1, rhI v1)] [] Γ M := by
  intro v0 v1
  rw [f_X12_sign]
  refine rhF.iload_n (pc := 0) dX12_sign_0 1 rfl ?_
  refine rhF.aload_n (pc := 1) dX12_sign_1 0 rfl ?_
  refine rhF.ck (fun h1 => ?_)
  refine rhF.get (pc := 2) (rhI _) dX12_sign_2 fl_X12_214 h1 rfl ?_
  refine rhF.icmp_ge (pc := 5) 21 dX12_sign_5 (by decide) (fun h2 => ?_) (fun h2 => ?_)
  · refine rhF.aload_n (pc := 8) dX12_sign_8 0 rfl ?_
    refine rhF.get (pc := 9) (rhR _) dX12_sign_9 fl_X12_13 h1 rfl ?_
    refine rhF.iload_n (pc := 12) dX12_sign_12 1 rfl ?_
    refine rhF.ck (fun h3 => ?_)
    refine rhF.ck (fun h4 => ?_)
    refine rhF.bald (pc := 13) dX12_sign_13 h3 h4 ?_
    refine rhF.sipush (pc := 14) (v := 255) dX12_sign_14 (by decide) ?_
    refine rhF.iand (pc := 17) dX12_sign_17 ?_
    refine rhF.goto (pc := 18) 22 dX12_sign_18 (by decide) ?_
    exact rhF.zret (pc := 22) dX12_sign_22 rfl rfl rfl
  · refine rhF.iconst (pc := 21) (v := 0) dX12_sign_21 (by decide) ?_
    exact rhF.zret (pc := 22) dX12_sign_22 rfl rfl rfl
theorem c_X12_sign (E : rhE) (Γ : rhG) (M : rhM) (v0 : Nat) (v1 : Int32) : ∀ a, f_X12_sign Γ M v0 v1 = some a → rhC E 1 yX12_sign cX12_sign 2 (some .int) [rhR v0, rhI v1] Γ M ((rhe0I Γ M) a) := rhF.met (by decide +kernel) (Nat.le_of_ble_eq_true rfl) (b_X12_sign v0 v1)
def f_X12_goOn_45 (k8 : rhM → Nat → Option (rhM)) (Γ : rhG) (M : rhM) (v0 : Nat) : Option (rhM) :=
  rhck (Γ.2.2.1 v0 = 13) <|
  let M8 := rhsi M v0 6 ((M.1 v0 6) + 1)
  k8 M8 v0
def f_X12_goOn_8 (k58 : rhM → Nat → Option (rhM)) (Γ : rhG) : Nat → rhM → Nat → Option (rhM)
  | 0, _, _ => none
  | n + 1, M, v0 =>
    rhck (Γ.2.2.1 v0 = 13) <|
    if (M.1 v0 6) < (M.1 v0 3) then
      ((f_X12_sign Γ M v0 (M.1 v0 6)).bind fun r5 =>
      if r5 = 32 then
        (f_X12_goOn_45 (f_X12_goOn_8 k58 Γ n) Γ M v0)
      else
        (f_X12_sign Γ M v0 (M.1 v0 6)).bind fun r9 =>
        if r9 = 10 then
          (f_X12_goOn_45 (f_X12_goOn_8 k58 Γ n) Γ M v0)
        else
          k58 M v0)
    else
      k58 M v0
def f_X12_goOn_374 (Γ : rhG) (M : rhM) (s0 : Nat) (s1 : Int32) : Option (rhM) :=
  rhck (Γ.2.2.1 s0 = 13) <|
  let M22 := rhsi M s0 8 s1
  some M22
def f_X12_goOn_309 (k259 : rhM → Nat → Option (rhM)) (Γ : rhG) (M : rhM) (v0 : Nat) : Option (rhM) :=
  rhck (Γ.2.2.1 v0 = 13) <|
  let M33 := rhsi M v0 7 ((M.1 v0 7) + 1)
  k259 M33 v0
def f_X12_goOn_259 (k322 : rhM → Nat → Option (rhM)) (Γ : rhG) : Nat → rhM → Nat → Option (rhM)
  | 0, _, _ => none
  | n + 1, M, v0 =>
    rhck (Γ.2.2.1 v0 = 13) <|
    (f_X12_sign Γ M v0 (M.1 v0 7)).bind fun r26 =>
    (f_X12_isDigit Γ M r26).bind fun r27 =>
    if r27 = 0 then
      (k322 M v0)
    else
      if ((M.1 v0 7) - (M.1 v0 6)) < 4 then
        ((f_X12_sign Γ M v0 (M.1 v0 7)).bind fun r30 =>
        let M31 := rhsi M v0 9 (((10 * (M.1 v0 9)) + r30) - 48)
        f_X12_goOn_309 (f_X12_goOn_259 k322 Γ n) Γ M31 v0)
      else
        f_X12_goOn_309 (f_X12_goOn_259 k322 Γ n) Γ M v0
def f_X12_goOn_350 (k355 : rhM → Nat → Int32 → Option (rhM)) (Γ : rhG) (M : rhM) (s0 : Nat) : Option (rhM) :=
  k355 M s0 1
def f_X12_goOn_355 (Γ : rhG) (M : rhM) (s0 : Nat) (s1 : Int32) : Option (rhM) :=
  rhck (Γ.2.2.1 s0 = 13) <|
  let M37 := rhsi M s0 8 s1
  some M37
def f_X12_goOn_322 (Γ : rhG) (M : rhM) (v0 : Nat) : Option (rhM) :=
  rhck (Γ.2.2.1 v0 = 13) <|
  if 4 < ((M.1 v0 7) - (M.1 v0 6)) then
    (f_X12_goOn_350 (f_X12_goOn_355 Γ) Γ M v0)
  else
    (f_X12_sign Γ M v0 (M.1 v0 7)).bind fun r38 =>
    (f_X12_isLetter Γ M r38).bind fun r39 =>
    if r39 = 0 then
      (f_X12_goOn_355 Γ M v0 4)
    else
      f_X12_goOn_350 (f_X12_goOn_355 Γ) Γ M v0
def f_X12_goOn_119 (k146 : rhM → Nat → Option (rhM)) (Γ : rhG) : Nat → rhM → Nat → Option (rhM)
  | 0, _, _ => none
  | n + 1, M, v0 =>
    rhck (Γ.2.2.1 v0 = 13) <|
    (f_X12_sign Γ M v0 (M.1 v0 7)).bind fun r42 =>
    (f_X12_isLetter Γ M r42).bind fun r43 =>
    if r43 = 0 then
      (k146 M v0)
    else
      let M45 := rhsi M v0 7 ((M.1 v0 7) + 1)
      f_X12_goOn_119 k146 Γ n M45 v0
def f_X12_goOn_156 (k199 : rhM → Nat → Option (rhM)) (Γ : rhG) : Nat → rhM → Nat → Int32 → Option (rhM)
  | 0, _, _, _ => none
  | n + 1, M, v0, v2 =>
    rhck (Γ.2.2.1 v0 = 13) <|
    if v2 < (M.1 v0 7) then
      (if v2 < ((M.1 v0 6) + 8) then
        ((f_X12_sign Γ M v0 v2).bind fun r52 =>
        let M53 := rhsl M v0 10 ((rhsh (M.2.1 v0 10) 8) ||| (Int32.toInt64 r52))
        let x54 : Int32 := v2 + 1
        f_X12_goOn_156 k199 Γ n M53 v0 x54)
      else
        k199 M v0)
    else
      k199 M v0
def f_X12_goOn_233 (Γ : rhG) (M : rhM) (s0 : Nat) (s1 : Int32) : Option (rhM) :=
  rhck (Γ.2.2.1 s0 = 13) <|
  let M58 := rhsi M s0 8 s1
  some M58
def f_X12_goOn_199 (Γ : rhG) (M : rhM) (v0 : Nat) : Option (rhM) :=
  rhck (Γ.2.2.1 v0 = 13) <|
  if 8 < ((M.1 v0 7) - (M.1 v0 6)) then
    (f_X12_goOn_233 Γ M v0 1)
  else
    (f_X12_isKept Γ M (M.2.1 v0 10)).bind fun r59 =>
    if r59 = 0 then
      (f_X12_goOn_233 Γ M v0 2)
    else
      f_X12_goOn_233 Γ M v0 3
def f_X12_goOn_146 (Γ : rhG) (M : rhM) (v0 : Nat) : Option (rhM) :=
  rhck (Γ.2.2.1 v0 = 13) <|
  let M47 := rhsl M v0 10 ((0 : Int64))
  let x48 := M.1 v0 6
  f_X12_goOn_156 (f_X12_goOn_199 Γ) Γ rhFU M47 v0 x48
def f_X12_goOn_58 (Γ : rhG) (M : rhM) (v0 : Nat) : Option (rhM) :=
  rhck (Γ.2.2.1 v0 = 13) <|
  (f_X12_sign Γ M v0 (M.1 v0 6)).bind fun r12 =>
  let M13 := rhsi M v0 7 ((M.1 v0 6) + 1)
  if (M13.1 v0 6) < (M13.1 v0 3) then
    ((f_X12_isLetter Γ M13 r12).bind fun r15 =>
    if r15 = 0 then
      ((f_X12_isDigit Γ M13 r12).bind fun r17 =>
      if r17 = 0 then
        ((f_X12_isSign Γ M13 r12).bind fun r19 =>
        if r19 = 0 then
          (f_X12_goOn_374 Γ M13 v0 1)
        else
          f_X12_goOn_374 Γ M13 v0 5)
      else
        let M23 := rhsi M13 v0 9 0
        let M24 := rhsi M23 v0 7 (M23.1 v0 6)
        f_X12_goOn_259 (f_X12_goOn_322 Γ) Γ rhFU M24 v0)
    else
      f_X12_goOn_119 (f_X12_goOn_146 Γ) Γ rhFU M13 v0)
  else
    let M61 := rhsi M13 v0 8 0
    let M62 := rhsi M61 v0 6 (M61.1 v0 3)
    let M63 := rhsi M62 v0 7 (M62.1 v0 3)
    some M63
def f_X12_goOn (Γ : rhG) (M : rhM) (v0 : Nat) : Option (rhM) :=
  rhck (Γ.2.2.1 v0 = 13) <|
  let M2 := rhsi M v0 6 (M.1 v0 7)
  f_X12_goOn_8 (f_X12_goOn_58 Γ) Γ rhFU M2 v0
set_option maxHeartbeats 4000000 in
set_option maxRecDepth 100000 in
theorem b_X12_goOn_45 {E : rhE} {Γ : rhG} {k8 : rhM → Nat → Option (rhM)} (hk8 : ∀ (M : rhM) (v0 : Nat), rhF E 5 3 yX12_goOn cX12_goOn none Γ (rhe1U Γ) (k8 M v0) 8 [(0, rhR v0)] [] Γ M) : ∀ (M : rhM) (v0 : Nat), rhF E 5 3 yX12_goOn cX12_goOn none Γ (rhe1U Γ) (f_X12_goOn_45 k8 Γ M v0) 45 [(0, rhR v0)] [] Γ M := by
  intro M v0
  rw [f_X12_goOn_45]
  refine rhF.aload_n (pc := 45) dX12_goOn_45 0 rfl ?_
  refine rhF.dupr (pc := 46) dX12_goOn_46 ?_
  refine rhF.ck (fun h7 => ?_)
  refine rhF.get (pc := 47) (rhI _) dX12_goOn_47 fl_X12_259 h7 rfl ?_
  refine rhF.iconst (pc := 50) (v := 1) dX12_goOn_50 (by decide) ?_
  refine rhF.iadd (pc := 51) dX12_goOn_51 ?_
  refine rhF.puti (pc := 52) dX12_goOn_52 fl_X12_259 h7 (fun q hq => by cases hq; exact Or.inl rfl) ⟨rfl, rfl⟩ (fun _ => rfl) ?_
  refine rhF.goto (pc := 55) 8 dX12_goOn_55 (by decide) ?_
  exact hk8 _ _
set_option maxHeartbeats 4000000 in
set_option maxRecDepth 100000 in
theorem b_X12_goOn_8 {E : rhE} {Γ : rhG} {k58 : rhM → Nat → Option (rhM)} (hk58 : ∀ (M : rhM) (v0 : Nat), rhF E 5 3 yX12_goOn cX12_goOn none Γ (rhe1U Γ) (k58 M v0) 58 [(0, rhR v0)] [] Γ M) : ∀ (n : Nat) (M : rhM) (v0 : Nat), rhF E 5 3 yX12_goOn cX12_goOn none Γ (rhe1U Γ) (f_X12_goOn_8 k58 Γ n M v0) 8 [(0, rhR v0)] [] Γ M := by
  intro n
  induction n with
  | zero => intro M v0; rw [f_X12_goOn_8]; exact rhF.nope
  | succ n ih =>
    intro M v0
    rw [f_X12_goOn_8]
    refine rhF.aload_n (pc := 8) dX12_goOn_8 0 rfl ?_
    refine rhF.ck (fun h3 => ?_)
    refine rhF.get (pc := 9) (rhI _) dX12_goOn_9 fl_X12_259 h3 rfl ?_
    refine rhF.aload_n (pc := 12) dX12_goOn_12 0 rfl ?_
    refine rhF.get (pc := 13) (rhI _) dX12_goOn_13 fl_X12_214 h3 rfl ?_
    refine rhF.icmp_ge (pc := 16) 58 dX12_goOn_16 (by decide) (fun h4 => ?_) (fun h4 => ?_)
    · refine rhF.aload_n (pc := 19) dX12_goOn_19 0 rfl ?_
      refine rhF.aload_n (pc := 20) dX12_goOn_20 0 rfl ?_
      refine rhF.get (pc := 21) (rhI _) dX12_goOn_21 fl_X12_259 h3 rfl ?_
      refine rhF.callV (pc := 24) (ci := 12) (embc := rhe0I _ _) [rhI _] dX12_goOn_24 ml_X12_262 mv_X12_sign ⟨_, rfl, rfl⟩ h3 (c_X12_sign _ _ _ _ _) (by decide) (by decide) rfl (Nat.le_of_ble_eq_true rfl) (fun r5 _ => ?_)
      refine rhF.bipush (pc := 27) (v := 32) dX12_goOn_27 (by decide) ?_
      refine rhF.icmp_eq (pc := 29) 45 dX12_goOn_29 (by decide) (fun h6 => ?_) (fun h6 => ?_)
      · exact (b_X12_goOn_45 ih) _ _
      · refine rhF.aload_n (pc := 32) dX12_goOn_32 0 rfl ?_
        refine rhF.aload_n (pc := 33) dX12_goOn_33 0 rfl ?_
        refine rhF.get (pc := 34) (rhI _) dX12_goOn_34 fl_X12_259 h3 rfl ?_
        refine rhF.callV (pc := 37) (ci := 12) (embc := rhe0I _ _) [rhI _] dX12_goOn_37 ml_X12_262 mv_X12_sign ⟨_, rfl, rfl⟩ h3 (c_X12_sign _ _ _ _ _) (by decide) (by decide) rfl (Nat.le_of_ble_eq_true rfl) (fun r9 _ => ?_)
        refine rhF.bipush (pc := 40) (v := 10) dX12_goOn_40 (by decide) ?_
        refine rhF.icmp_ne (pc := 42) 58 dX12_goOn_42 (by decide) (fun h10 => ?_) (fun h10 => ?_)
        · exact (b_X12_goOn_45 ih) _ _
        · exact hk58 _ _
    · exact hk58 _ _
set_option maxHeartbeats 4000000 in
set_option maxRecDepth 100000 in
theorem b_X12_goOn_374 {E : rhE} {Γ : rhG} : ∀ (M : rhM) (s0 : Nat) (s1 : Int32), rhF E 5 3 yX12_goOn cX12_goOn none Γ (rhe1U Γ) (f_X12_goOn_374 Γ M s0 s1) 374 [] [rhI s1, rhR s0] Γ M := by
  intro M s0 s1
  rw [f_X12_goOn_374]
  refine rhF.ck (fun h21 => ?_)
  refine rhF.puti (pc := 374) dX12_goOn_374 fl_X12_266 h21 (fun q hq => by cases hq; exact Or.inl rfl) ⟨rfl, rfl⟩ (fun _ => rfl) ?_
  exact rhF.vret (pc := 377) dX12_goOn_377 rfl rfl
set_option maxHeartbeats 4000000 in
set_option maxRecDepth 100000 in
theorem b_X12_goOn_309 {E : rhE} {Γ : rhG} {k259 : rhM → Nat → Option (rhM)} (hk259 : ∀ (M : rhM) (v0 : Nat), rhF E 5 3 yX12_goOn cX12_goOn none Γ (rhe1U Γ) (k259 M v0) 259 [(0, rhR v0)] [] Γ M) : ∀ (M : rhM) (v0 : Nat), rhF E 5 3 yX12_goOn cX12_goOn none Γ (rhe1U Γ) (f_X12_goOn_309 k259 Γ M v0) 309 [(0, rhR v0)] [] Γ M := by
  intro M v0
  rw [f_X12_goOn_309]
  refine rhF.aload_n (pc := 309) dX12_goOn_309 0 rfl ?_
  refine rhF.dupr (pc := 310) dX12_goOn_310 ?_
  refine rhF.ck (fun h32 => ?_)
  refine rhF.get (pc := 311) (rhI _) dX12_goOn_311 fl_X12_256 h32 rfl ?_
  refine rhF.iconst (pc := 314) (v := 1) dX12_goOn_314 (by decide) ?_
  refine rhF.iadd (pc := 315) dX12_goOn_315 ?_
  refine rhF.puti (pc := 316) dX12_goOn_316 fl_X12_256 h32 (fun q hq => by cases hq; exact Or.inl rfl) ⟨rfl, rfl⟩ (fun _ => rfl) ?_
  refine rhF.goto (pc := 319) 259 dX12_goOn_319 (by decide) ?_
  exact hk259 _ _
set_option maxHeartbeats 4000000 in
set_option maxRecDepth 100000 in
theorem b_X12_goOn_259 {E : rhE} {Γ : rhG} {k322 : rhM → Nat → Option (rhM)} (hk322 : ∀ (M : rhM) (v0 : Nat), rhF E 5 3 yX12_goOn cX12_goOn none Γ (rhe1U Γ) (k322 M v0) 322 [(0, rhR v0)] [] Γ M) : ∀ (n : Nat) (M : rhM) (v0 : Nat), rhF E 5 3 yX12_goOn cX12_goOn none Γ (rhe1U Γ) (f_X12_goOn_259 k322 Γ n M v0) 259 [(0, rhR v0)] [] Γ M := by
  intro n
  induction n with
  | zero => intro M v0; rw [f_X12_goOn_259]; exact rhF.nope
  | succ n ih =>
    intro M v0
    rw [f_X12_goOn_259]
    refine rhF.aload_n (pc := 259) dX12_goOn_259 0 rfl ?_
    refine rhF.aload_n (pc := 260) dX12_goOn_260 0 rfl ?_
    refine rhF.ck (fun h25 => ?_)
    refine rhF.get (pc := 261) (rhI _) dX12_goOn_261 fl_X12_256 h25 rfl ?_
    refine rhF.callV (pc := 264) (ci := 12) (embc := rhe0I _ _) [rhI _] dX12_goOn_264 ml_X12_262 mv_X12_sign ⟨_, rfl, rfl⟩ h25 (c_X12_sign _ _ _ _ _) (by decide) (by decide) rfl (Nat.le_of_ble_eq_true rfl) (fun r26 _ => ?_)
    refine rhF.callS (pc := 267) (embc := rhe0I _ _) [rhI _] dX12_goOn_267 ml_X12_281 ms_X12_isDigit (c_X12_isDigit _ _ _ _) (by decide) (by decide) rfl (Nat.le_of_ble_eq_true rfl) (fun r27 _ => ?_)
    refine rhF.if_eq (pc := 270) 322 dX12_goOn_270 (by decide) (fun h28 => ?_) (fun h28 => ?_)
    · exact hk322 _ _
    · refine rhF.aload_n (pc := 273) dX12_goOn_273 0 rfl ?_
      refine rhF.get (pc := 274) (rhI _) dX12_goOn_274 fl_X12_256 h25 rfl ?_
      refine rhF.aload_n (pc := 277) dX12_goOn_277 0 rfl ?_
      refine rhF.get (pc := 278) (rhI _) dX12_goOn_278 fl_X12_259 h25 rfl ?_
      refine rhF.isub (pc := 281) dX12_goOn_281 ?_
      refine rhF.iconst (pc := 282) (v := 4) dX12_goOn_282 (by decide) ?_
      refine rhF.icmp_ge (pc := 283) 309 dX12_goOn_283 (by decide) (fun h29 => ?_) (fun h29 => ?_)
      · refine rhF.aload_n (pc := 286) dX12_goOn_286 0 rfl ?_
        refine rhF.bipush (pc := 287) (v := 10) dX12_goOn_287 (by decide) ?_
        refine rhF.aload_n (pc := 289) dX12_goOn_289 0 rfl ?_
        refine rhF.get (pc := 290) (rhI _) dX12_goOn_290 fl_X12_284 h25 rfl ?_
        refine rhF.imul (pc := 293) dX12_goOn_293 ?_
        refine rhF.aload_n (pc := 294) dX12_goOn_294 0 rfl ?_
        refine rhF.aload_n (pc := 295) dX12_goOn_295 0 rfl ?_
        refine rhF.get (pc := 296) (rhI _) dX12_goOn_296 fl_X12_256 h25 rfl ?_
        refine rhF.callV (pc := 299) (ci := 12) (embc := rhe0I _ _) [rhI _] dX12_goOn_299 ml_X12_262 mv_X12_sign ⟨_, rfl, rfl⟩ h25 (c_X12_sign _ _ _ _ _) (by decide) (by decide) rfl (Nat.le_of_ble_eq_true rfl) (fun r30 _ => ?_)
        refine rhF.iadd (pc := 302) dX12_goOn_302 ?_
        refine rhF.bipush (pc := 303) (v := 48) dX12_goOn_303 (by decide) ?_
        refine rhF.isub (pc := 305) dX12_goOn_305 ?_
        refine rhF.puti (pc := 306) dX12_goOn_306 fl_X12_284 h25 (fun q hq => by cases hq; exact Or.inl rfl) ⟨rfl, rfl⟩ (fun _ => rfl) ?_
        exact (b_X12_goOn_309 ih) _ _
      · exact (b_X12_goOn_309 ih) _ _
set_option maxHeartbeats 4000000 in
set_option maxRecDepth 100000 in
theorem b_X12_goOn_350 {E : rhE} {Γ : rhG} {k355 : rhM → Nat → Int32 → Option (rhM)} (hk355 : ∀ (M : rhM) (s0 : Nat) (s1 : Int32), rhF E 5 3 yX12_goOn cX12_goOn none Γ (rhe1U Γ) (k355 M s0 s1) 355 [] [rhI s1, rhR s0] Γ M) : ∀ (M : rhM) (s0 : Nat), rhF E 5 3 yX12_goOn cX12_goOn none Γ (rhe1U Γ) (f_X12_goOn_350 k355 Γ M s0) 350 [] [rhR s0] Γ M := by
  intro M s0
  rw [f_X12_goOn_350]
  refine rhF.iconst (pc := 350) (v := 1) dX12_goOn_350 (by decide) ?_
  refine rhF.goto (pc := 351) 355 dX12_goOn_351 (by decide) ?_
  exact hk355 _ _ _
set_option maxHeartbeats 4000000 in
set_option maxRecDepth 100000 in
theorem b_X12_goOn_355 {E : rhE} {Γ : rhG} : ∀ (M : rhM) (s0 : Nat) (s1 : Int32), rhF E 5 3 yX12_goOn cX12_goOn none Γ (rhe1U Γ) (f_X12_goOn_355 Γ M s0 s1) 355 [] [rhI s1, rhR s0] Γ M := by
  intro M s0 s1
  rw [f_X12_goOn_355]
  refine rhF.ck (fun h36 => ?_)
  refine rhF.puti (pc := 355) dX12_goOn_355 fl_X12_266 h36 (fun q hq => by cases hq; exact Or.inl rfl) ⟨rfl, rfl⟩ (fun _ => rfl) ?_
  refine rhF.goto (pc := 358) 377 dX12_goOn_358 (by decide) ?_
  exact rhF.vret (pc := 377) dX12_goOn_377 rfl rfl
set_option maxHeartbeats 4000000 in
set_option maxRecDepth 100000 in
theorem b_X12_goOn_322 {E : rhE} {Γ : rhG} : ∀ (M : rhM) (v0 : Nat), rhF E 5 3 yX12_goOn cX12_goOn none Γ (rhe1U Γ) (f_X12_goOn_322 Γ M v0) 322 [(0, rhR v0)] [] Γ M := by
  intro M v0
  rw [f_X12_goOn_322]
  refine rhF.aload_n (pc := 322) dX12_goOn_322 0 rfl ?_
  refine rhF.aload_n (pc := 323) dX12_goOn_323 0 rfl ?_
  refine rhF.ck (fun h34 => ?_)
  refine rhF.get (pc := 324) (rhI _) dX12_goOn_324 fl_X12_256 h34 rfl ?_
  refine rhF.aload_n (pc := 327) dX12_goOn_327 0 rfl ?_
  refine rhF.get (pc := 328) (rhI _) dX12_goOn_328 fl_X12_259 h34 rfl ?_
  refine rhF.isub (pc := 331) dX12_goOn_331 ?_
  refine rhF.iconst (pc := 332) (v := 4) dX12_goOn_332 (by decide) ?_
  refine rhF.icmp_gt (pc := 333) 350 dX12_goOn_333 (by decide) (fun h35 => ?_) (fun h35 => ?_)
  · refine rhF.sub [] rfl ?_
    exact (b_X12_goOn_350 (b_X12_goOn_355)) _ _
  · refine rhF.aload_n (pc := 336) dX12_goOn_336 0 rfl ?_
    refine rhF.aload_n (pc := 337) dX12_goOn_337 0 rfl ?_
    refine rhF.get (pc := 338) (rhI _) dX12_goOn_338 fl_X12_256 h34 rfl ?_
    refine rhF.callV (pc := 341) (ci := 12) (embc := rhe0I _ _) [rhI _] dX12_goOn_341 ml_X12_262 mv_X12_sign ⟨_, rfl, rfl⟩ h34 (c_X12_sign _ _ _ _ _) (by decide) (by decide) rfl (Nat.le_of_ble_eq_true rfl) (fun r38 _ => ?_)
    refine rhF.callS (pc := 344) (embc := rhe0I _ _) [rhI _] dX12_goOn_344 ml_X12_269 ms_X12_isLetter (c_X12_isLetter _ _ _ _) (by decide) (by decide) rfl (Nat.le_of_ble_eq_true rfl) (fun r39 _ => ?_)
    refine rhF.if_eq (pc := 347) 354 dX12_goOn_347 (by decide) (fun h40 => ?_) (fun h40 => ?_)
    · refine rhF.iconst (pc := 354) (v := 4) dX12_goOn_354 (by decide) ?_
      refine rhF.sub [] rfl ?_
      exact (b_X12_goOn_355) _ _ _
    · refine rhF.sub [] rfl ?_
      exact (b_X12_goOn_350 (b_X12_goOn_355)) _ _
set_option maxHeartbeats 4000000 in
set_option maxRecDepth 100000 in
theorem b_X12_goOn_119 {E : rhE} {Γ : rhG} {k146 : rhM → Nat → Option (rhM)} (hk146 : ∀ (M : rhM) (v0 : Nat), rhF E 5 3 yX12_goOn cX12_goOn none Γ (rhe1U Γ) (k146 M v0) 146 [(0, rhR v0)] [] Γ M) : ∀ (n : Nat) (M : rhM) (v0 : Nat), rhF E 5 3 yX12_goOn cX12_goOn none Γ (rhe1U Γ) (f_X12_goOn_119 k146 Γ n M v0) 119 [(0, rhR v0)] [] Γ M := by
  intro n
  induction n with
  | zero => intro M v0; rw [f_X12_goOn_119]; exact rhF.nope
  | succ n ih =>
    intro M v0
    rw [f_X12_goOn_119]
    refine rhF.aload_n (pc := 119) dX12_goOn_119 0 rfl ?_
    refine rhF.aload_n (pc := 120) dX12_goOn_120 0 rfl ?_
    refine rhF.ck (fun h41 => ?_)
    refine rhF.get (pc := 121) (rhI _) dX12_goOn_121 fl_X12_256 h41 rfl ?_
    refine rhF.callV (pc := 124) (ci := 12) (embc := rhe0I _ _) [rhI _] dX12_goOn_124 ml_X12_262 mv_X12_sign ⟨_, rfl, rfl⟩ h41 (c_X12_sign _ _ _ _ _) (by decide) (by decide) rfl (Nat.le_of_ble_eq_true rfl) (fun r42 _ => ?_)
    refine rhF.callS (pc := 127) (embc := rhe0I _ _) [rhI _] dX12_goOn_127 ml_X12_269 ms_X12_isLetter (c_X12_isLetter _ _ _ _) (by decide) (by decide) rfl (Nat.le_of_ble_eq_true rfl) (fun r43 _ => ?_)
    refine rhF.if_eq (pc := 130) 146 dX12_goOn_130 (by decide) (fun h44 => ?_) (fun h44 => ?_)
    · exact hk146 _ _
    · refine rhF.aload_n (pc := 133) dX12_goOn_133 0 rfl ?_
      refine rhF.dupr (pc := 134) dX12_goOn_134 ?_
      refine rhF.get (pc := 135) (rhI _) dX12_goOn_135 fl_X12_256 h41 rfl ?_
      refine rhF.iconst (pc := 138) (v := 1) dX12_goOn_138 (by decide) ?_
      refine rhF.iadd (pc := 139) dX12_goOn_139 ?_
      refine rhF.puti (pc := 140) dX12_goOn_140 fl_X12_256 h41 (fun q hq => by cases hq; exact Or.inl rfl) ⟨rfl, rfl⟩ (fun _ => rfl) ?_
      refine rhF.goto (pc := 143) 119 dX12_goOn_143 (by decide) ?_
      exact ih _ _
set_option maxHeartbeats 4000000 in
set_option maxRecDepth 100000 in
theorem b_X12_goOn_156 {E : rhE} {Γ : rhG} {k199 : rhM → Nat → Option (rhM)} (hk199 : ∀ (M : rhM) (v0 : Nat), rhF E 5 3 yX12_goOn cX12_goOn none Γ (rhe1U Γ) (k199 M v0) 199 [(0, rhR v0)] [] Γ M) : ∀ (n : Nat) (M : rhM) (v0 : Nat) (v2 : Int32), rhF E 5 3 yX12_goOn cX12_goOn none Γ (rhe1U Γ) (f_X12_goOn_156 k199 Γ n M v0 v2) 156 [(0, rhR v0), (2, rhI v2)] [] Γ M := by
  intro n
  induction n with
  | zero => intro M v0 v2; rw [f_X12_goOn_156]; exact rhF.nope
  | succ n ih =>
    intro M v0 v2
    rw [f_X12_goOn_156]
    refine rhF.iload_n (pc := 156) dX12_goOn_156 1 rfl ?_
    refine rhF.aload_n (pc := 157) dX12_goOn_157 0 rfl ?_
    refine rhF.ck (fun h49 => ?_)
    refine rhF.get (pc := 158) (rhI _) dX12_goOn_158 fl_X12_256 h49 rfl ?_
    refine rhF.icmp_ge (pc := 161) 199 dX12_goOn_161 (by decide) (fun h50 => ?_) (fun h50 => ?_)
    · refine rhF.iload_n (pc := 164) dX12_goOn_164 1 rfl ?_
      refine rhF.aload_n (pc := 165) dX12_goOn_165 0 rfl ?_
      refine rhF.get (pc := 166) (rhI _) dX12_goOn_166 fl_X12_259 h49 rfl ?_
      refine rhF.bipush (pc := 169) (v := 8) dX12_goOn_169 (by decide) ?_
      refine rhF.iadd (pc := 171) dX12_goOn_171 ?_
      refine rhF.icmp_ge (pc := 172) 199 dX12_goOn_172 (by decide) (fun h51 => ?_) (fun h51 => ?_)
      · refine rhF.aload_n (pc := 175) dX12_goOn_175 0 rfl ?_
        refine rhF.aload_n (pc := 176) dX12_goOn_176 0 rfl ?_
        refine rhF.get (pc := 177) (rhJ _) dX12_goOn_177 fl_X12_273 h49 rfl ?_
        refine rhF.bipush (pc := 180) (v := 8) dX12_goOn_180 (by decide) ?_
        refine rhF.lshl (pc := 182) dX12_goOn_182 ?_
        refine rhF.aload_n (pc := 183) dX12_goOn_183 0 rfl ?_
        refine rhF.iload_n (pc := 184) dX12_goOn_184 1 rfl ?_
        refine rhF.callV (pc := 185) (ci := 12) (embc := rhe0I _ _) [rhI _] dX12_goOn_185 ml_X12_262 mv_X12_sign ⟨_, rfl, rfl⟩ h49 (c_X12_sign _ _ _ _ _) (by decide) (by decide) rfl (Nat.le_of_ble_eq_true rfl) (fun r52 _ => ?_)
        refine rhF.i2l (pc := 188) dX12_goOn_188 ?_
        refine rhF.lor (pc := 189) dX12_goOn_189 ?_
        refine rhF.putl (pc := 190) dX12_goOn_190 fl_X12_273 h49 (fun q hq => by cases hq; exact Or.inl rfl) ⟨rfl, rfl⟩ (fun _ => rfl) ?_
        refine rhF.iinc (pc := 193) (L' := [(2, rhI _), (0, rhR _)]) dX12_goOn_193 1 rfl rfl (by decide) rfl ?_
        refine rhF.goto (pc := 196) 156 dX12_goOn_196 (by decide) ?_
        refine rhF.sub [1, 0] rfl ?_
        exact ih _ _ _
      · refine rhF.sub [0] rfl ?_
        exact hk199 _ _
    · refine rhF.sub [0] rfl ?_
      exact hk199 _ _
set_option maxHeartbeats 4000000 in
set_option maxRecDepth 100000 in
theorem b_X12_goOn_233 {E : rhE} {Γ : rhG} : ∀ (M : rhM) (s0 : Nat) (s1 : Int32), rhF E 5 3 yX12_goOn cX12_goOn none Γ (rhe1U Γ) (f_X12_goOn_233 Γ M s0 s1) 233 [] [rhI s1, rhR s0] Γ M := by
  intro M s0 s1
  rw [f_X12_goOn_233]
  refine rhF.ck (fun h57 => ?_)
  refine rhF.puti (pc := 233) dX12_goOn_233 fl_X12_266 h57 (fun q hq => by cases hq; exact Or.inl rfl) ⟨rfl, rfl⟩ (fun _ => rfl) ?_
  refine rhF.goto (pc := 236) 377 dX12_goOn_236 (by decide) ?_
  exact rhF.vret (pc := 377) dX12_goOn_377 rfl rfl
set_option maxHeartbeats 4000000 in
set_option maxRecDepth 100000 in
theorem b_X12_goOn_199 {E : rhE} {Γ : rhG} : ∀ (M : rhM) (v0 : Nat), rhF E 5 3 yX12_goOn cX12_goOn none Γ (rhe1U Γ) (f_X12_goOn_199 Γ M v0) 199 [(0, rhR v0)] [] Γ M := by
  intro M v0
  rw [f_X12_goOn_199]
  refine rhF.aload_n (pc := 199) dX12_goOn_199 0 rfl ?_
  refine rhF.aload_n (pc := 200) dX12_goOn_200 0 rfl ?_
  refine rhF.ck (fun h55 => ?_)
  refine rhF.get (pc := 201) (rhI _) dX12_goOn_201 fl_X12_256 h55 rfl ?_
  refine rhF.aload_n (pc := 204) dX12_goOn_204 0 rfl ?_
  refine rhF.get (pc := 205) (rhI _) dX12_goOn_205 fl_X12_259 h55 rfl ?_
  refine rhF.isub (pc := 208) dX12_goOn_208 ?_
  refine rhF.bipush (pc := 209) (v := 8) dX12_goOn_209 (by decide) ?_
  refine rhF.icmp_le (pc := 211) 218 dX12_goOn_211 (by decide) (fun h56 => ?_) (fun h56 => ?_)
  · refine rhF.iconst (pc := 214) (v := 1) dX12_goOn_214 (by decide) ?_
    refine rhF.goto (pc := 215) 233 dX12_goOn_215 (by decide) ?_
    refine rhF.sub [] rfl ?_
    exact (b_X12_goOn_233) _ _ _
  · refine rhF.aload_n (pc := 218) dX12_goOn_218 0 rfl ?_
    refine rhF.get (pc := 219) (rhJ _) dX12_goOn_219 fl_X12_273 h55 rfl ?_
    refine rhF.callS (pc := 222) (embc := rhe0I _ _) [rhJ _] dX12_goOn_222 ml_X12_277 ms_X12_isKept (c_X12_isKept _ _ _ _) (by decide) (by decide) rfl (Nat.le_of_ble_eq_true rfl) (fun r59 _ => ?_)
    refine rhF.if_eq (pc := 225) 232 dX12_goOn_225 (by decide) (fun h60 => ?_) (fun h60 => ?_)
    · refine rhF.iconst (pc := 232) (v := 2) dX12_goOn_232 (by decide) ?_
      refine rhF.sub [] rfl ?_
      exact (b_X12_goOn_233) _ _ _
    · refine rhF.iconst (pc := 228) (v := 3) dX12_goOn_228 (by decide) ?_
      refine rhF.goto (pc := 229) 233 dX12_goOn_229 (by decide) ?_
      refine rhF.sub [] rfl ?_
      exact (b_X12_goOn_233) _ _ _
set_option maxHeartbeats 4000000 in
set_option maxRecDepth 100000 in
theorem b_X12_goOn_146 {E : rhE} {Γ : rhG} : ∀ (M : rhM) (v0 : Nat), rhF E 5 3 yX12_goOn cX12_goOn none Γ (rhe1U Γ) (f_X12_goOn_146 Γ M v0) 146 [(0, rhR v0)] [] Γ M := by
  intro M v0
  rw [f_X12_goOn_146]
  refine rhF.aload_n (pc := 146) dX12_goOn_146 0 rfl ?_
  refine rhF.lconst (pc := 147) (v := 0) dX12_goOn_147 (by decide) ?_
  refine rhF.ck (fun h46 => ?_)
  refine rhF.putl (pc := 148) dX12_goOn_148 fl_X12_273 h46 (fun q hq => by cases hq; exact Or.inl rfl) ⟨rfl, rfl⟩ (fun _ => rfl) ?_
  refine rhF.aload_n (pc := 151) dX12_goOn_151 0 rfl ?_
  refine rhF.get (pc := 152) (rhI _) dX12_goOn_152 fl_X12_259 h46 rfl ?_
  refine rhF.istore_n (pc := 155) (L' := [(2, rhI _), (0, rhR _)]) dX12_goOn_155 (by decide) rfl ?_
  refine rhF.sub [1, 0] rfl ?_
  exact (b_X12_goOn_156 (b_X12_goOn_199) rhFU) _ _ _
set_option maxHeartbeats 4000000 in
set_option maxRecDepth 100000 in
theorem b_X12_goOn_58 {E : rhE} {Γ : rhG} : ∀ (M : rhM) (v0 : Nat), rhF E 5 3 yX12_goOn cX12_goOn none Γ (rhe1U Γ) (f_X12_goOn_58 Γ M v0) 58 [(0, rhR v0)] [] Γ M := by
  intro M v0
  rw [f_X12_goOn_58]
  refine rhF.aload_n (pc := 58) dX12_goOn_58 0 rfl ?_
  refine rhF.aload_n (pc := 59) dX12_goOn_59 0 rfl ?_
  refine rhF.ck (fun h11 => ?_)
  refine rhF.get (pc := 60) (rhI _) dX12_goOn_60 fl_X12_259 h11 rfl ?_
  refine rhF.callV (pc := 63) (ci := 12) (embc := rhe0I _ _) [rhI _] dX12_goOn_63 ml_X12_262 mv_X12_sign ⟨_, rfl, rfl⟩ h11 (c_X12_sign _ _ _ _ _) (by decide) (by decide) rfl (Nat.le_of_ble_eq_true rfl) (fun r12 _ => ?_)
  refine rhF.istore_n (pc := 66) (L' := [(1, rhI _), (0, rhR _)]) dX12_goOn_66 (by decide) rfl ?_
  refine rhF.aload_n (pc := 67) dX12_goOn_67 1 rfl ?_
  refine rhF.aload_n (pc := 68) dX12_goOn_68 1 rfl ?_
  refine rhF.get (pc := 69) (rhI _) dX12_goOn_69 fl_X12_259 h11 rfl ?_
  refine rhF.iconst (pc := 72) (v := 1) dX12_goOn_72 (by decide) ?_
  refine rhF.iadd (pc := 73) dX12_goOn_73 ?_
  refine rhF.puti (pc := 74) dX12_goOn_74 fl_X12_256 h11 (fun q hq => by cases hq; exact Or.inl rfl) ⟨rfl, rfl⟩ (fun _ => rfl) ?_
  refine rhF.aload_n (pc := 77) dX12_goOn_77 1 rfl ?_
  refine rhF.get (pc := 78) (rhI _) dX12_goOn_78 fl_X12_259 h11 rfl ?_
  refine rhF.aload_n (pc := 81) dX12_goOn_81 1 rfl ?_
  refine rhF.get (pc := 82) (rhI _) dX12_goOn_82 fl_X12_214 h11 rfl ?_
  refine rhF.icmp_lt (pc := 85) 112 dX12_goOn_85 (by decide) (fun h14 => ?_) (fun h14 => ?_)
  · refine rhF.iload_n (pc := 112) dX12_goOn_112 0 rfl ?_
    refine rhF.callS (pc := 113) (embc := rhe0I _ _) [rhI _] dX12_goOn_113 ml_X12_269 ms_X12_isLetter (c_X12_isLetter _ _ _ _) (by decide) (by decide) rfl (Nat.le_of_ble_eq_true rfl) (fun r15 _ => ?_)
    refine rhF.if_eq (pc := 116) 239 dX12_goOn_116 (by decide) (fun h16 => ?_) (fun h16 => ?_)
    · refine rhF.iload_n (pc := 239) dX12_goOn_239 0 rfl ?_
      refine rhF.callS (pc := 240) (embc := rhe0I _ _) [rhI _] dX12_goOn_240 ml_X12_281 ms_X12_isDigit (c_X12_isDigit _ _ _ _) (by decide) (by decide) rfl (Nat.le_of_ble_eq_true rfl) (fun r17 _ => ?_)
      refine rhF.if_eq (pc := 243) 361 dX12_goOn_243 (by decide) (fun h18 => ?_) (fun h18 => ?_)
      · refine rhF.aload_n (pc := 361) dX12_goOn_361 1 rfl ?_
        refine rhF.iload_n (pc := 362) dX12_goOn_362 0 rfl ?_
        refine rhF.callS (pc := 363) (embc := rhe0I _ _) [rhI _] dX12_goOn_363 ml_X12_287 ms_X12_isSign (c_X12_isSign _ _ _ _) (by decide) (by decide) rfl (Nat.le_of_ble_eq_true rfl) (fun r19 _ => ?_)
        refine rhF.if_eq (pc := 366) 373 dX12_goOn_366 (by decide) (fun h20 => ?_) (fun h20 => ?_)
        · refine rhF.iconst (pc := 373) (v := 1) dX12_goOn_373 (by decide) ?_
          refine rhF.sub [] rfl ?_
          exact (b_X12_goOn_374) _ _ _
        · refine rhF.iconst (pc := 369) (v := 5) dX12_goOn_369 (by decide) ?_
          refine rhF.goto (pc := 370) 374 dX12_goOn_370 (by decide) ?_
          refine rhF.sub [] rfl ?_
          exact (b_X12_goOn_374) _ _ _
      · refine rhF.aload_n (pc := 246) dX12_goOn_246 1 rfl ?_
        refine rhF.iconst (pc := 247) (v := 0) dX12_goOn_247 (by decide) ?_
        refine rhF.puti (pc := 248) dX12_goOn_248 fl_X12_284 h11 (fun q hq => by cases hq; exact Or.inl rfl) ⟨rfl, rfl⟩ (fun _ => rfl) ?_
        refine rhF.aload_n (pc := 251) dX12_goOn_251 1 rfl ?_
        refine rhF.aload_n (pc := 252) dX12_goOn_252 1 rfl ?_
        refine rhF.get (pc := 253) (rhI _) dX12_goOn_253 fl_X12_259 h11 rfl ?_
        refine rhF.puti (pc := 256) dX12_goOn_256 fl_X12_256 h11 (fun q hq => by cases hq; exact Or.inl rfl) ⟨rfl, rfl⟩ (fun _ => rfl) ?_
        refine rhF.sub [1] rfl ?_
        exact (b_X12_goOn_259 (b_X12_goOn_322) rhFU) _ _
    · refine rhF.sub [1] rfl ?_
      exact (b_X12_goOn_119 (b_X12_goOn_146) rhFU) _ _
  · refine rhF.aload_n (pc := 88) dX12_goOn_88 1 rfl ?_
    refine rhF.iconst (pc := 89) (v := 0) dX12_goOn_89 (by decide) ?_
    refine rhF.puti (pc := 90) dX12_goOn_90 fl_X12_266 h11 (fun q hq => by cases hq; exact Or.inl rfl) ⟨rfl, rfl⟩ (fun _ => rfl) ?_
    refine rhF.aload_n (pc := 93) dX12_goOn_93 1 rfl ?_
    refine rhF.aload_n (pc := 94) dX12_goOn_94 1 rfl ?_
    refine rhF.get (pc := 95) (rhI _) dX12_goOn_95 fl_X12_214 h11 rfl ?_
    refine rhF.puti (pc := 98) dX12_goOn_98 fl_X12_259 h11 (fun q hq => by cases hq; exact Or.inl rfl) ⟨rfl, rfl⟩ (fun _ => rfl) ?_
    refine rhF.aload_n (pc := 101) dX12_goOn_101 1 rfl ?_
    refine rhF.aload_n (pc := 102) dX12_goOn_102 1 rfl ?_
    refine rhF.get (pc := 103) (rhI _) dX12_goOn_103 fl_X12_214 h11 rfl ?_
    refine rhF.puti (pc := 106) dX12_goOn_106 fl_X12_256 h11 (fun q hq => by cases hq; exact Or.inl rfl) ⟨rfl, rfl⟩ (fun _ => rfl) ?_
    refine rhF.goto (pc := 109) 377 dX12_goOn_109 (by decide) ?_
    exact rhF.vret (pc := 377) dX12_goOn_377 rfl rfl
set_option maxHeartbeats 4000000 in
set_option maxRecDepth 100000 in
theorem b_X12_goOn {E : rhE} {Γ : rhG} : ∀ (M : rhM) (v0 : Nat), rhF E 5 3 yX12_goOn cX12_goOn none Γ (rhe1U Γ) (f_X12_goOn Γ M v0) 0 [(0, rhR v0)] [] Γ M := by
  intro M v0
  rw [f_X12_goOn]
  refine rhF.aload_n (pc := 0) dX12_goOn_0 0 rfl ?_
  refine rhF.aload_n (pc := 1) dX12_goOn_1 0 rfl ?_
  refine rhF.ck (fun h1 => ?_)
  refine rhF.get (pc := 2) (rhI _) dX12_goOn_2 fl_X12_256 h1 rfl ?_
  refine rhF.puti (pc := 5) dX12_goOn_5 fl_X12_259 h1 (fun q hq => by cases hq; exact Or.inl rfl) ⟨rfl, rfl⟩ (fun _ => rfl) ?_
  exact (b_X12_goOn_8 (b_X12_goOn_58) rhFU) _ _
theorem c_X12_goOn (E : rhE) (Γ : rhG) (M : rhM) (v0 : Nat) : ∀ a, f_X12_goOn Γ M v0 = some a → rhC E 5 yX12_goOn cX12_goOn 3 none [rhR v0] Γ M ((rhe1U Γ) a) := rhF.met (by decide +kernel) (Nat.le_of_ble_eq_true rfl) (b_X12_goOn M v0)
def f_X12_isGood (Γ : rhG) (M : rhM) (v0 : Nat) : Option (Int32) :=
  rhck (Γ.2.2.1 v0 = 13) <|
  if (M.1 v0 4) = 0 then
    (some 1)
  else
    some 0
set_option maxHeartbeats 4000000 in
set_option maxRecDepth 100000 in
theorem b_X12_isGood {E : rhE} {Γ : rhG} {M : rhM} : ∀ (v0 : Nat), rhF E 1 1 yX12_isGood cX12_isGood (some .boolean) Γ (rhe0I Γ M) (f_X12_isGood Γ M v0) 0 [(0, rhR v0)] [] Γ M := by
  intro v0
  rw [f_X12_isGood]
  refine rhF.aload_n (pc := 0) dX12_isGood_0 0 rfl ?_
  refine rhF.ck (fun h1 => ?_)
  refine rhF.get (pc := 1) (rhI _) dX12_isGood_1 fl_X12_217 h1 rfl ?_
  refine rhF.if_ne (pc := 4) 11 dX12_isGood_4 (by decide) (fun h2 => ?_) (fun h2 => ?_)
  · refine rhF.iconst (pc := 7) (v := 1) dX12_isGood_7 (by decide) ?_
    refine rhF.goto (pc := 8) 12 dX12_isGood_8 (by decide) ?_
    exact rhF.zret (pc := 12) dX12_isGood_12 rfl rfl rfl
  · refine rhF.iconst (pc := 11) (v := 0) dX12_isGood_11 (by decide) ?_
    exact rhF.zret (pc := 12) dX12_isGood_12 rfl rfl rfl
theorem c_X12_isGood (E : rhE) (Γ : rhG) (M : rhM) (v0 : Nat) : ∀ a, f_X12_isGood Γ M v0 = some a → rhC E 1 yX12_isGood cX12_isGood 1 (some .boolean) [rhR v0] Γ M ((rhe0I Γ M) a) := rhF.met (by decide +kernel) (Nat.le_of_ble_eq_true rfl) (b_X12_isGood v0)
def f_X12_fails (Γ : rhG) (M : rhM) (v0 : Nat) (v1 : Int32) (v2 : Int32) : Option (rhM) :=
  rhck (Γ.2.2.1 v0 = 13) <|
  if 0 < (M.1 v0 4) then
    (some M)
  else
    let M3 := rhsi M v0 4 v1
    let M4 := rhsi M3 v0 5 v2
    some M4
set_option maxHeartbeats 4000000 in
set_option maxRecDepth 100000 in
theorem b_X12_fails {E : rhE} {Γ : rhG} : ∀ (M : rhM) (v0 : Nat) (v1 : Int32) (v2 : Int32), rhF E 1 3 yX12_fails cX12_fails none Γ (rhe1U Γ) (f_X12_fails Γ M v0 v1 v2) 0 [(0, rhR v0), (1, rhI v1), (2, rhI v2)] [] Γ M := by
  intro M v0 v1 v2
  rw [f_X12_fails]
  refine rhF.aload_n (pc := 0) dX12_fails_0 0 rfl ?_
  refine rhF.ck (fun h1 => ?_)
  refine rhF.get (pc := 1) (rhI _) dX12_fails_1 fl_X12_217 h1 rfl ?_
  refine rhF.if_le (pc := 4) 8 dX12_fails_4 (by decide) (fun h2 => ?_) (fun h2 => ?_)
  · exact rhF.vret (pc := 7) dX12_fails_7 rfl rfl
  · refine rhF.aload_n (pc := 8) dX12_fails_8 0 rfl ?_
    refine rhF.iload_n (pc := 9) dX12_fails_9 1 rfl ?_
    refine rhF.puti (pc := 10) dX12_fails_10 fl_X12_217 h1 (fun q hq => by cases hq; exact Or.inl rfl) ⟨rfl, rfl⟩ (fun _ => rfl) ?_
    refine rhF.aload_n (pc := 13) dX12_fails_13 0 rfl ?_
    refine rhF.iload_n (pc := 14) dX12_fails_14 2 rfl ?_
    refine rhF.puti (pc := 15) dX12_fails_15 fl_X12_16 h1 (fun q hq => by cases hq; exact Or.inl rfl) ⟨rfl, rfl⟩ (fun _ => rfl) ?_
    exact rhF.vret (pc := 18) dX12_fails_18 rfl rfl
theorem c_X12_fails (E : rhE) (Γ : rhG) (M : rhM) (v0 : Nat) (v1 : Int32) (v2 : Int32) : ∀ a, f_X12_fails Γ M v0 v1 v2 = some a → rhC E 1 yX12_fails cX12_fails 3 none [rhR v0, rhI v1, rhI v2] Γ M ((rhe1U Γ) a) := rhF.met (by decide +kernel) (Nat.le_of_ble_eq_true rfl) (b_X12_fails M v0 v1 v2)
def f_X12_misplaced_14 (Γ : rhG) (M : rhM) (v0 : Nat) (s0 : Nat) (s1 : Int32) : Option (rhM) :=
  rhck (Γ.2.2.1 v0 = 13) <|
  rhck (Γ.2.2.1 s0 = 13) <|
  (f_X12_fails Γ M s0 s1 (M.1 v0 6)).bind fun r5 =>
  some r5
def f_X12_misplaced (Γ : rhG) (M : rhM) (v0 : Nat) : Option (rhM) :=
  rhck (Γ.2.2.1 v0 = 13) <|
  if (M.1 v0 8) = 1 then
    (f_X12_misplaced_14 Γ M v0 v0 1)
  else
    f_X12_misplaced_14 Γ M v0 v0 2
set_option maxHeartbeats 4000000 in
set_option maxRecDepth 100000 in
theorem b_X12_misplaced_14 {E : rhE} {Γ : rhG} : ∀ (M : rhM) (v0 : Nat) (s0 : Nat) (s1 : Int32), rhF E 5 1 yX12_misplaced cX12_misplaced none Γ (rhe1U Γ) (f_X12_misplaced_14 Γ M v0 s0 s1) 14 [(0, rhR v0)] [rhI s1, rhR s0] Γ M := by
  intro M v0 s0 s1
  rw [f_X12_misplaced_14]
  refine rhF.aload_n (pc := 14) dX12_misplaced_14 0 rfl ?_
  refine rhF.ck (fun h3 => ?_)
  refine rhF.get (pc := 15) (rhI _) dX12_misplaced_15 fl_X12_259 h3 rfl ?_
  refine rhF.ck (fun h4 => ?_)
  refine rhF.callV (pc := 18) (ci := 12) (embc := rhe1U _) [rhI _, rhI _] dX12_misplaced_18 ml_X12_290 mv_X12_fails ⟨_, rfl, rfl⟩ h4 (c_X12_fails _ _ _ _ _ _) (by decide) (by decide) rfl (Nat.le_of_ble_eq_true rfl) (fun r5 _ => ?_)
  exact rhF.vret (pc := 21) dX12_misplaced_21 rfl rfl
set_option maxHeartbeats 4000000 in
set_option maxRecDepth 100000 in
theorem b_X12_misplaced {E : rhE} {Γ : rhG} : ∀ (M : rhM) (v0 : Nat), rhF E 5 1 yX12_misplaced cX12_misplaced none Γ (rhe1U Γ) (f_X12_misplaced Γ M v0) 0 [(0, rhR v0)] [] Γ M := by
  intro M v0
  rw [f_X12_misplaced]
  refine rhF.aload_n (pc := 0) dX12_misplaced_0 0 rfl ?_
  refine rhF.aload_n (pc := 1) dX12_misplaced_1 0 rfl ?_
  refine rhF.ck (fun h1 => ?_)
  refine rhF.get (pc := 2) (rhI _) dX12_misplaced_2 fl_X12_266 h1 rfl ?_
  refine rhF.iconst (pc := 5) (v := 1) dX12_misplaced_5 (by decide) ?_
  refine rhF.icmp_ne (pc := 6) 13 dX12_misplaced_6 (by decide) (fun h2 => ?_) (fun h2 => ?_)
  · refine rhF.iconst (pc := 9) (v := 1) dX12_misplaced_9 (by decide) ?_
    refine rhF.goto (pc := 10) 14 dX12_misplaced_10 (by decide) ?_
    exact (b_X12_misplaced_14) _ _ _ _
  · refine rhF.iconst (pc := 13) (v := 2) dX12_misplaced_13 (by decide) ?_
    exact (b_X12_misplaced_14) _ _ _ _
theorem c_X12_misplaced (E : rhE) (Γ : rhG) (M : rhM) (v0 : Nat) : ∀ a, f_X12_misplaced Γ M v0 = some a → rhC E 5 yX12_misplaced cX12_misplaced 1 none [rhR v0] Γ M ((rhe1U Γ) a) := rhF.met (by decide +kernel) (Nat.le_of_ble_eq_true rfl) (b_X12_misplaced M v0)
def f_X12_must (Γ : rhG) (M : rhM) (v0 : Nat) (v1 : Int32) : Option (rhM) :=
  rhck (Γ.2.2.1 v0 = 13) <|
  (f_X12_isGood Γ M v0).bind fun r2 =>
  if r2 = 0 then
    (some M)
  else
    if v1 = 0 then
      ((f_X12_misplaced Γ M v0).bind fun r5 =>
      some r5)
    else
      (f_X12_goOn Γ M v0).bind fun r6 =>
      some r6
set_option maxHeartbeats 4000000 in
set_option maxRecDepth 100000 in
theorem b_X12_must {E : rhE} {Γ : rhG} : ∀ (M : rhM) (v0 : Nat) (v1 : Int32), rhF E 6 2 yX12_must cX12_must none Γ (rhe1U Γ) (f_X12_must Γ M v0 v1) 0 [(0, rhR v0), (1, rhI v1)] [] Γ M := by
  intro M v0 v1
  rw [f_X12_must]
  refine rhF.aload_n (pc := 0) dX12_must_0 0 rfl ?_
  refine rhF.ck (fun h1 => ?_)
  refine rhF.callV (pc := 1) (ci := 12) (embc := rhe0I _ _) [] dX12_must_1 ml_X12_294 mv_X12_isGood ⟨_, rfl, rfl⟩ h1 (c_X12_isGood _ _ _ _) (by decide) (by decide) rfl (Nat.le_of_ble_eq_true rfl) (fun r2 _ => ?_)
  refine rhF.if_ne (pc := 4) 8 dX12_must_4 (by decide) (fun h3 => ?_) (fun h3 => ?_)
  · exact rhF.vret (pc := 7) dX12_must_7 rfl rfl
  · refine rhF.iload_n (pc := 8) dX12_must_8 1 rfl ?_
    refine rhF.if_eq (pc := 9) 19 dX12_must_9 (by decide) (fun h4 => ?_) (fun h4 => ?_)
    · refine rhF.aload_n (pc := 19) dX12_must_19 0 rfl ?_
      refine rhF.callV (pc := 20) (ci := 12) (embc := rhe1U _) [] dX12_must_20 ml_X12_301 mv_X12_misplaced ⟨_, rfl, rfl⟩ h1 (c_X12_misplaced _ _ _ _) (by decide) (by decide) rfl (Nat.le_of_ble_eq_true rfl) (fun r5 _ => ?_)
      exact rhF.vret (pc := 23) dX12_must_23 rfl rfl
    · refine rhF.aload_n (pc := 12) dX12_must_12 0 rfl ?_
      refine rhF.callV (pc := 13) (ci := 12) (embc := rhe1U _) [] dX12_must_13 ml_X12_298 mv_X12_goOn ⟨_, rfl, rfl⟩ h1 (c_X12_goOn _ _ _ _) (by decide) (by decide) rfl (Nat.le_of_ble_eq_true rfl) (fun r6 _ => ?_)
      refine rhF.goto (pc := 16) 23 dX12_must_16 (by decide) ?_
      exact rhF.vret (pc := 23) dX12_must_23 rfl rfl
theorem c_X12_must (E : rhE) (Γ : rhG) (M : rhM) (v0 : Nat) (v1 : Int32) : ∀ a, f_X12_must Γ M v0 v1 = some a → rhC E 6 yX12_must cX12_must 2 none [rhR v0, rhI v1] Γ M ((rhe1U Γ) a) := rhF.met (by decide +kernel) (Nat.le_of_ble_eq_true rfl) (b_X12_must M v0 v1)
def f_X12_numeral_69 (Γ : rhG) (M : rhM) (v0 : Nat) (v1 : Int32) (v3 : Int32) : Option (Int32 × rhM) :=
  rhck (Γ.2.2.1 v0 = 13) <|
  (f_X12_isGood Γ M v0).bind fun r13 =>
  if r13 = 0 then
    (some ((v1, M)))
  else
    some ((v3, M))
def f_X12_numeral_53 (Γ : rhG) (M : rhM) (v0 : Nat) (v1 : Int32) : Option (Int32 × rhM) :=
  rhck (Γ.2.2.1 v0 = 13) <|
  let x9 := M.1 v0 9
  (f_X12_isGood Γ M v0).bind fun r10 =>
  if r10 = 0 then
    (f_X12_numeral_69 Γ M v0 v1 x9)
  else
    (f_X12_goOn Γ M v0).bind fun r15 =>
    f_X12_numeral_69 Γ r15 v0 v1 x9
def f_X12_numeral_44 (k53 : rhM → Nat → Int32 → Option (Int32 × rhM)) (Γ : rhG) (M : rhM) (v0 : Nat) (v1 : Int32) : Option (Int32 × rhM) :=
  rhck (Γ.2.2.1 v0 = 13) <|
  (f_X12_fails Γ M v0 (4 : Int32) (M.1 v0 6)).bind fun r18 =>
  k53 r18 v0 v1
def f_X12_numeral_21 (Γ : rhG) (M : rhM) (v0 : Nat) (v1 : Int32) (v2 : Int32) : Option (Int32 × rhM) :=
  rhck (Γ.2.2.1 v0 = 13) <|
  (f_X12_isGood Γ M v0).bind fun r6 =>
  if r6 = 0 then
    (f_X12_numeral_53 Γ M v0 v1)
  else
    if (M.1 v0 9) < v1 then
      (f_X12_numeral_44 (f_X12_numeral_53 Γ) Γ M v0 v1)
    else
      if v2 < (M.1 v0 9) then
        (f_X12_numeral_44 (f_X12_numeral_53 Γ) Γ M v0 v1)
      else
        f_X12_numeral_53 Γ M v0 v1
def f_X12_numeral (Γ : rhG) (M : rhM) (v0 : Nat) (v1 : Int32) (v2 : Int32) : Option (Int32 × rhM) :=
  rhck (Γ.2.2.1 v0 = 13) <|
  (f_X12_isGood Γ M v0).bind fun r2 =>
  if r2 = 0 then
    (some ((v1, M)))
  else
    if (M.1 v0 8) = 4 then
      (f_X12_numeral_21 Γ M v0 v1 v2)
    else
      (f_X12_misplaced Γ M v0).bind fun r20 =>
      f_X12_numeral_21 Γ r20 v0 v1 v2
set_option maxHeartbeats 4000000 in
set_option maxRecDepth 100000 in
theorem b_X12_numeral_69 {E : rhE} {Γ : rhG} : ∀ (M : rhM) (v0 : Nat) (v1 : Int32) (v3 : Int32), rhF E 6 4 yX12_numeral cX12_numeral (some .int) Γ (rhe1I Γ) (f_X12_numeral_69 Γ M v0 v1 v3) 69 [(0, rhR v0), (1, rhI v1), (3, rhI v3)] [] Γ M := by
  intro M v0 v1 v3
  rw [f_X12_numeral_69]
  refine rhF.aload_n (pc := 69) dX12_numeral_69 0 rfl ?_
  refine rhF.ck (fun h12 => ?_)
  refine rhF.callV (pc := 70) (ci := 12) (embc := rhe0I _ _) [] dX12_numeral_70 ml_X12_294 mv_X12_isGood ⟨_, rfl, rfl⟩ h12 (c_X12_isGood _ _ _ _) (by decide) (by decide) rfl (Nat.le_of_ble_eq_true rfl) (fun r13 _ => ?_)
  refine rhF.if_eq (pc := 73) 80 dX12_numeral_73 (by decide) (fun h14 => ?_) (fun h14 => ?_)
  · refine rhF.iload_n (pc := 80) dX12_numeral_80 1 rfl ?_
    exact rhF.zret (pc := 81) dX12_numeral_81 rfl rfl rfl
  · refine rhF.iload_n (pc := 76) dX12_numeral_76 2 rfl ?_
    refine rhF.goto (pc := 77) 81 dX12_numeral_77 (by decide) ?_
    exact rhF.zret (pc := 81) dX12_numeral_81 rfl rfl rfl
set_option maxHeartbeats 4000000 in
set_option maxRecDepth 100000 in
theorem b_X12_numeral_53 {E : rhE} {Γ : rhG} : ∀ (M : rhM) (v0 : Nat) (v1 : Int32), rhF E 6 4 yX12_numeral cX12_numeral (some .int) Γ (rhe1I Γ) (f_X12_numeral_53 Γ M v0 v1) 53 [(0, rhR v0), (1, rhI v1)] [] Γ M := by
  intro M v0 v1
  rw [f_X12_numeral_53]
  refine rhF.aload_n (pc := 53) dX12_numeral_53 0 rfl ?_
  refine rhF.ck (fun h8 => ?_)
  refine rhF.get (pc := 54) (rhI _) dX12_numeral_54 fl_X12_284 h8 rfl ?_
  refine rhF.istore_n (pc := 57) (L' := [(3, rhI _), (0, rhR _), (1, rhI _)]) dX12_numeral_57 (by decide) rfl ?_
  refine rhF.aload_n (pc := 58) dX12_numeral_58 1 rfl ?_
  refine rhF.callV (pc := 59) (ci := 12) (embc := rhe0I _ _) [] dX12_numeral_59 ml_X12_294 mv_X12_isGood ⟨_, rfl, rfl⟩ h8 (c_X12_isGood _ _ _ _) (by decide) (by decide) rfl (Nat.le_of_ble_eq_true rfl) (fun r10 _ => ?_)
  refine rhF.if_eq (pc := 62) 69 dX12_numeral_62 (by decide) (fun h11 => ?_) (fun h11 => ?_)
  · refine rhF.sub [1, 2, 0] rfl ?_
    exact (b_X12_numeral_69) _ _ _ _
  · refine rhF.aload_n (pc := 65) dX12_numeral_65 1 rfl ?_
    refine rhF.callV (pc := 66) (ci := 12) (embc := rhe1U _) [] dX12_numeral_66 ml_X12_298 mv_X12_goOn ⟨_, rfl, rfl⟩ h8 (c_X12_goOn _ _ _ _) (by decide) (by decide) rfl (Nat.le_of_ble_eq_true rfl) (fun r15 _ => ?_)
    refine rhF.sub [1, 2, 0] rfl ?_
    exact (b_X12_numeral_69) _ _ _ _
set_option maxHeartbeats 4000000 in
set_option maxRecDepth 100000 in
theorem b_X12_numeral_44 {E : rhE} {Γ : rhG} {k53 : rhM → Nat → Int32 → Option (Int32 × rhM)} (hk53 : ∀ (M : rhM) (v0 : Nat) (v1 : Int32), rhF E 6 4 yX12_numeral cX12_numeral (some .int) Γ (rhe1I Γ) (k53 M v0 v1) 53 [(0, rhR v0), (1, rhI v1)] [] Γ M) : ∀ (M : rhM) (v0 : Nat) (v1 : Int32), rhF E 6 4 yX12_numeral cX12_numeral (some .int) Γ (rhe1I Γ) (f_X12_numeral_44 k53 Γ M v0 v1) 44 [(0, rhR v0), (1, rhI v1)] [] Γ M := by
  intro M v0 v1
  rw [f_X12_numeral_44]
  refine rhF.aload_n (pc := 44) dX12_numeral_44 0 rfl ?_
  refine rhF.iconst (pc := 45) (v := 4) dX12_numeral_45 (by decide) ?_
  refine rhF.aload_n (pc := 46) dX12_numeral_46 0 rfl ?_
  refine rhF.ck (fun h17 => ?_)
  refine rhF.get (pc := 47) (rhI _) dX12_numeral_47 fl_X12_259 h17 rfl ?_
  refine rhF.callV (pc := 50) (ci := 12) (embc := rhe1U _) [rhI _, rhI _] dX12_numeral_50 ml_X12_290 mv_X12_fails ⟨_, rfl, rfl⟩ h17 (c_X12_fails _ _ _ _ _ _) (by decide) (by decide) rfl (Nat.le_of_ble_eq_true rfl) (fun r18 _ => ?_)
  exact hk53 _ _ _
set_option maxHeartbeats 4000000 in
set_option maxRecDepth 100000 in
theorem b_X12_numeral_21 {E : rhE} {Γ : rhG} : ∀ (M : rhM) (v0 : Nat) (v1 : Int32) (v2 : Int32), rhF E 6 4 yX12_numeral cX12_numeral (some .int) Γ (rhe1I Γ) (f_X12_numeral_21 Γ M v0 v1 v2) 21 [(0, rhR v0), (1, rhI v1), (2, rhI v2)] [] Γ M := by
  intro M v0 v1 v2
  rw [f_X12_numeral_21]
  refine rhF.aload_n (pc := 21) dX12_numeral_21 0 rfl ?_
  refine rhF.ck (fun h5 => ?_)
  refine rhF.callV (pc := 22) (ci := 12) (embc := rhe0I _ _) [] dX12_numeral_22 ml_X12_294 mv_X12_isGood ⟨_, rfl, rfl⟩ h5 (c_X12_isGood _ _ _ _) (by decide) (by decide) rfl (Nat.le_of_ble_eq_true rfl) (fun r6 _ => ?_)
  refine rhF.if_eq (pc := 25) 53 dX12_numeral_25 (by decide) (fun h7 => ?_) (fun h7 => ?_)
  · refine rhF.sub [0, 1] rfl ?_
    exact (b_X12_numeral_53) _ _ _
  · refine rhF.aload_n (pc := 28) dX12_numeral_28 0 rfl ?_
    refine rhF.get (pc := 29) (rhI _) dX12_numeral_29 fl_X12_284 h5 rfl ?_
    refine rhF.iload_n (pc := 32) dX12_numeral_32 1 rfl ?_
    refine rhF.icmp_lt (pc := 33) 44 dX12_numeral_33 (by decide) (fun h16 => ?_) (fun h16 => ?_)
    · refine rhF.sub [0, 1] rfl ?_
      exact (b_X12_numeral_44 (b_X12_numeral_53)) _ _ _
    · refine rhF.aload_n (pc := 36) dX12_numeral_36 0 rfl ?_
      refine rhF.get (pc := 37) (rhI _) dX12_numeral_37 fl_X12_284 h5 rfl ?_
      refine rhF.iload_n (pc := 40) dX12_numeral_40 2 rfl ?_
      refine rhF.icmp_le (pc := 41) 53 dX12_numeral_41 (by decide) (fun h19 => ?_) (fun h19 => ?_)
      · refine rhF.sub [0, 1] rfl ?_
        exact (b_X12_numeral_44 (b_X12_numeral_53)) _ _ _
      · refine rhF.sub [0, 1] rfl ?_
        exact (b_X12_numeral_53) _ _ _
set_option maxHeartbeats 4000000 in
set_option maxRecDepth 100000 in
theorem b_X12_numeral {E : rhE} {Γ : rhG} : ∀ (M : rhM) (v0 : Nat) (v1 : Int32) (v2 : Int32), rhF E 6 4 yX12_numeral cX12_numeral (some .int) Γ (rhe1I Γ) (f_X12_numeral Γ M v0 v1 v2) 0 [(0, rhR v0), (1, rhI v1), (2, rhI v2)] [] Γ M := by
  intro M v0 v1 v2
  rw [f_X12_numeral]
  refine rhF.aload_n (pc := 0) dX12_numeral_0 0 rfl ?_
  refine rhF.ck (fun h1 => ?_)
  refine rhF.callV (pc := 1) (ci := 12) (embc := rhe0I _ _) [] dX12_numeral_1 ml_X12_294 mv_X12_isGood ⟨_, rfl, rfl⟩ h1 (c_X12_isGood _ _ _ _) (by decide) (by decide) rfl (Nat.le_of_ble_eq_true rfl) (fun r2 _ => ?_)
  refine rhF.if_ne (pc := 4) 9 dX12_numeral_4 (by decide) (fun h3 => ?_) (fun h3 => ?_)
  · refine rhF.iload_n (pc := 7) dX12_numeral_7 1 rfl ?_
    exact rhF.zret (pc := 8) dX12_numeral_8 rfl rfl rfl
  · refine rhF.aload_n (pc := 9) dX12_numeral_9 0 rfl ?_
    refine rhF.get (pc := 10) (rhI _) dX12_numeral_10 fl_X12_266 h1 rfl ?_
    refine rhF.iconst (pc := 13) (v := 4) dX12_numeral_13 (by decide) ?_
    refine rhF.icmp_eq (pc := 14) 21 dX12_numeral_14 (by decide) (fun h4 => ?_) (fun h4 => ?_)
    · exact (b_X12_numeral_21) _ _ _ _
    · refine rhF.aload_n (pc := 17) dX12_numeral_17 0 rfl ?_
      refine rhF.callV (pc := 18) (ci := 12) (embc := rhe1U _) [] dX12_numeral_18 ml_X12_301 mv_X12_misplaced ⟨_, rfl, rfl⟩ h1 (c_X12_misplaced _ _ _ _) (by decide) (by decide) rfl (Nat.le_of_ble_eq_true rfl) (fun r20 _ => ?_)
      exact (b_X12_numeral_21) _ _ _ _
theorem c_X12_numeral (E : rhE) (Γ : rhG) (M : rhM) (v0 : Nat) (v1 : Int32) (v2 : Int32) : ∀ a, f_X12_numeral Γ M v0 v1 v2 = some a → rhC E 6 yX12_numeral cX12_numeral 4 (some .int) [rhR v0, rhI v1, rhI v2] Γ M ((rhe1I Γ) a) := rhF.met (by decide +kernel) (Nat.le_of_ble_eq_true rfl) (b_X12_numeral M v0 v1 v2)
def f_X12_after (Γ : rhG) (M : rhM) (v0 : Nat) (v1 : Int64) (v3 : Int32) (v4 : Int32) : Option (Int32 × rhM) :=
  rhck (Γ.2.2.1 v0 = 13) <|
  (f_X12_isWord Γ M v0 v1).bind fun r2 =>
  (f_X12_must Γ M v0 r2).bind fun r3 =>
  (f_X12_numeral Γ r3 v0 v3 v4).bind fun r4 =>
  some ((r4.1, r4.2))
set_option maxHeartbeats 4000000 in
set_option maxRecDepth 100000 in
theorem b_X12_after {E : rhE} {Γ : rhG} : ∀ (M : rhM) (v0 : Nat) (v1 : Int64) (v3 : Int32) (v4 : Int32), rhF E 7 5 yX12_after cX12_after (some .int) Γ (rhe1I Γ) (f_X12_after Γ M v0 v1 v3 v4) 0 [(0, rhR v0), (1, rhJ v1), (3, rhI v3), (4, rhI v4)] [] Γ M := by
  intro M v0 v1 v3 v4
  rw [f_X12_after]
  refine rhF.aload_n (pc := 0) dX12_after_0 0 rfl ?_
  refine rhF.aload_n (pc := 1) dX12_after_1 0 rfl ?_
  refine rhF.lload_n (pc := 2) dX12_after_2 1 rfl ?_
  refine rhF.ck (fun h1 => ?_)
  refine rhF.callV (pc := 3) (ci := 12) (embc := rhe0I _ _) [rhJ _] dX12_after_3 ml_X12_304 mv_X12_isWord ⟨_, rfl, rfl⟩ h1 (c_X12_isWord _ _ _ _ _) (by decide) (by decide) rfl (Nat.le_of_ble_eq_true rfl) (fun r2 _ => ?_)
  refine rhF.callV (pc := 6) (ci := 12) (embc := rhe1U _) [rhI _] dX12_after_6 ml_X12_307 mv_X12_must ⟨_, rfl, rfl⟩ h1 (c_X12_must _ _ _ _ _) (by decide) (by decide) rfl (Nat.le_of_ble_eq_true rfl) (fun r3 _ => ?_)
  refine rhF.aload_n (pc := 9) dX12_after_9 0 rfl ?_
  refine rhF.iload_n (pc := 10) dX12_after_10 2 rfl ?_
  refine rhF.iload (pc := 11) dX12_after_11 3 rfl ?_
  refine rhF.callV (pc := 13) (ci := 12) (embc := rhe1I _) [rhI _, rhI _] dX12_after_13 ml_X12_311 mv_X12_numeral ⟨_, rfl, rfl⟩ h1 (c_X12_numeral _ _ _ _ _ _) (by decide) (by decide) rfl (Nat.le_of_ble_eq_true rfl) (fun r4 _ => ?_)
  exact rhF.zret (pc := 16) dX12_after_16 rfl rfl rfl
theorem c_X12_after (E : rhE) (Γ : rhG) (M : rhM) (v0 : Nat) (v1 : Int64) (v3 : Int32) (v4 : Int32) : ∀ a, f_X12_after Γ M v0 v1 v3 v4 = some a → rhC E 7 yX12_after cX12_after 5 (some .int) [rhR v0, rhJ v1, rhI v3, rhI v4] Γ M ((rhe1I Γ) a) := rhF.met (by decide +kernel) (Nat.le_of_ble_eq_true rfl) (b_X12_after M v0 v1 v3 v4)
def f_X12_beginOf (Γ : rhG) (M : rhM) (v0 : Nat) (v1 : Int32) : Option (Int32) :=
  if v1 = 0 then
    (some 0)
  else
    rhck (Γ.2.2.1 v0 = 13) <|
    rhck (Γ.2.2.1 (M.2.2 v0 40) = 15) <|
    rhck (0 ≤ (v1 - 1).toInt ∧ (v1 - 1).toInt < (Γ.2.2.2 (M.2.2 v0 40) : Nat)) <|
    some (M.1 (M.2.2 v0 40) (v1 - 1).toNatClampNeg)
set_option maxHeartbeats 4000000 in
set_option maxRecDepth 100000 in
theorem b_X12_beginOf {E : rhE} {Γ : rhG} {M : rhM} : ∀ (v0 : Nat) (v1 : Int32), rhF E 1 2 yX12_beginOf cX12_beginOf (some .int) Γ (rhe0I Γ M) (f_X12_beginOf Γ M v0 v1) 0 [(0, rhR v0), (1, rhI v1)] [] Γ M := by
  intro v0 v1
  rw [f_X12_beginOf]
  refine rhF.iload_n (pc := 0) dX12_beginOf_0 1 rfl ?_
  refine rhF.if_ne (pc := 1) 8 dX12_beginOf_1 (by decide) (fun h1 => ?_) (fun h1 => ?_)
  · refine rhF.iconst (pc := 4) (v := 0) dX12_beginOf_4 (by decide) ?_
    refine rhF.goto (pc := 5) 16 dX12_beginOf_5 (by decide) ?_
    exact rhF.zret (pc := 16) dX12_beginOf_16 rfl rfl rfl
  · refine rhF.aload_n (pc := 8) dX12_beginOf_8 0 rfl ?_
    refine rhF.ck (fun h2 => ?_)
    refine rhF.get (pc := 9) (rhR _) dX12_beginOf_9 fl_X12_95 h2 rfl ?_
    refine rhF.iload_n (pc := 12) dX12_beginOf_12 1 rfl ?_
    refine rhF.iconst (pc := 13) (v := 1) dX12_beginOf_13 (by decide) ?_
    refine rhF.isub (pc := 14) dX12_beginOf_14 ?_
    refine rhF.ck (fun h3 => ?_)
    refine rhF.ck (fun h4 => ?_)
    refine rhF.iald (pc := 15) dX12_beginOf_15 h3 h4 ?_
    exact rhF.zret (pc := 16) dX12_beginOf_16 rfl rfl rfl
theorem c_X12_beginOf (E : rhE) (Γ : rhG) (M : rhM) (v0 : Nat) (v1 : Int32) : ∀ a, f_X12_beginOf Γ M v0 v1 = some a → rhC E 1 yX12_beginOf cX12_beginOf 2 (some .int) [rhR v0, rhI v1] Γ M ((rhe0I Γ M) a) := rhF.met (by decide +kernel) (Nat.le_of_ble_eq_true rfl) (b_X12_beginOf v0 v1)
def f_X12_roomOn_37 (Γ : rhG) (M : rhM) : Nat → Nat → Int32 → Int32 → Int32 → Option (Int32)
  | 0, _, _, _, _ => none
  | n + 1, v0, v1, v2, v3 =>
    rhck (Γ.2.2.1 v0 = 13) <|
    rhck (Γ.2.2.1 (M.2.2 v0 40) = 15) <|
    rhck (0 ≤ (v1).toInt ∧ (v1).toInt < (Γ.2.2.2 (M.2.2 v0 40) : Nat)) <|
    if v3 < (M.1 (M.2.2 v0 40) v1.toNatClampNeg) then
      (rhck (Γ.2.2.1 (M.2.2 v0 39) = 15) <|
      rhck (0 ≤ (v3).toInt ∧ (v3).toInt < (Γ.2.2.2 (M.2.2 v0 39) : Nat)) <|
      rhck (Γ.2.2.1 (M.2.2 v0 19) = 15) <|
      rhck (0 ≤ ((8 * (M.1 v0 34)) + (M.1 (M.2.2 v0 39) v3.toNatClampNeg)).toInt ∧ ((8 * (M.1 v0 34)) + (M.1 (M.2.2 v0 39) v3.toNatClampNeg)).toInt < (Γ.2.2.2 (M.2.2 v0 19) : Nat)) <|
      let x16 := v2 - (M.1 (M.2.2 v0 19) ((8 * (M.1 v0 34)) + (M.1 (M.2.2 v0 39) v3.toNatClampNeg)).toNatClampNeg)
      let x17 : Int32 := v3 + 1
      f_X12_roomOn_37 Γ M n v0 v1 x16 x17)
    else
      some v2
def f_X12_roomOn_29 (Γ : rhG) (M : rhM) (v0 : Nat) (v1 : Int32) (s0 : Int32) (s1 : Int32) : Option (Int32) :=
  let x5 := s0 + s1
  rhck (Γ.2.2.1 v0 = 13) <|
  (f_X12_beginOf Γ M v0 v1).bind fun r7 =>
  f_X12_roomOn_37 Γ M rhFU v0 v1 x5 r7
def f_X12_roomOn (Γ : rhG) (M : rhM) (v0 : Nat) (v1 : Int32) : Option (Int32) :=
  rhck (Γ.2.2.1 v0 = 13) <|
  rhck (Γ.2.2.1 (M.2.2 v0 18) = 15) <|
  rhck (0 ≤ ((5 * (M.1 v0 34)) + v1).toInt ∧ ((5 * (M.1 v0 34)) + v1).toInt < (Γ.2.2.2 (M.2.2 v0 18) : Nat)) <|
  if v1 = (M.1 v0 44) then
    (f_X12_roomOn_29 Γ M v0 v1 (M.1 (M.2.2 v0 18) ((5 * (M.1 v0 34)) + v1).toNatClampNeg) (M.1 v0 45))
  else
    f_X12_roomOn_29 Γ M v0 v1 (M.1 (M.2.2 v0 18) ((5 * (M.1 v0 34)) + v1).toNatClampNeg) 0
set_option maxHeartbeats 4000000 in
set_option maxRecDepth 100000 in
theorem b_X12_roomOn_37 {E : rhE} {Γ : rhG} {M : rhM} : ∀ (n : Nat) (v0 : Nat) (v1 : Int32) (v2 : Int32) (v3 : Int32), rhF E 5 4 yX12_roomOn cX12_roomOn (some .int) Γ (rhe0I Γ M) (f_X12_roomOn_37 Γ M n v0 v1 v2 v3) 37 [(0, rhR v0), (1, rhI v1), (2, rhI v2), (3, rhI v3)] [] Γ M := by
  intro n
  induction n with
  | zero => intro v0 v1 v2 v3; rw [f_X12_roomOn_37]; exact rhF.nope
  | succ n ih =>
    intro v0 v1 v2 v3
    rw [f_X12_roomOn_37]
    refine rhF.iload_n (pc := 37) dX12_roomOn_37 3 rfl ?_
    refine rhF.aload_n (pc := 38) dX12_roomOn_38 0 rfl ?_
    refine rhF.ck (fun h8 => ?_)
    refine rhF.get (pc := 39) (rhR _) dX12_roomOn_39 fl_X12_95 h8 rfl ?_
    refine rhF.iload_n (pc := 42) dX12_roomOn_42 1 rfl ?_
    refine rhF.ck (fun h9 => ?_)
    refine rhF.ck (fun h10 => ?_)
    refine rhF.iald (pc := 43) dX12_roomOn_43 h9 h10 ?_
    refine rhF.icmp_ge (pc := 44) 75 dX12_roomOn_44 (by decide) (fun h11 => ?_) (fun h11 => ?_)
    · refine rhF.iload_n (pc := 47) dX12_roomOn_47 2 rfl ?_
      refine rhF.aload_n (pc := 48) dX12_roomOn_48 0 rfl ?_
      refine rhF.get (pc := 49) (rhR _) dX12_roomOn_49 fl_X12_45 h8 rfl ?_
      refine rhF.bipush (pc := 52) (v := 8) dX12_roomOn_52 (by decide) ?_
      refine rhF.aload_n (pc := 54) dX12_roomOn_54 0 rfl ?_
      refine rhF.get (pc := 55) (rhI _) dX12_roomOn_55 fl_X12_327 h8 rfl ?_
      refine rhF.imul (pc := 58) dX12_roomOn_58 ?_
      refine rhF.aload_n (pc := 59) dX12_roomOn_59 0 rfl ?_
      refine rhF.get (pc := 60) (rhR _) dX12_roomOn_60 fl_X12_92 h8 rfl ?_
      refine rhF.iload_n (pc := 63) dX12_roomOn_63 3 rfl ?_
      refine rhF.ck (fun h12 => ?_)
      refine rhF.ck (fun h13 => ?_)
      refine rhF.iald (pc := 64) dX12_roomOn_64 h12 h13 ?_
      refine rhF.iadd (pc := 65) dX12_roomOn_65 ?_
      refine rhF.ck (fun h14 => ?_)
      refine rhF.ck (fun h15 => ?_)
      refine rhF.iald (pc := 66) dX12_roomOn_66 h14 h15 ?_
      refine rhF.isub (pc := 67) dX12_roomOn_67 ?_
      refine rhF.istore_n (pc := 68) (L' := [(2, rhI _), (0, rhR _), (1, rhI _), (3, rhI _)]) dX12_roomOn_68 (by decide) rfl ?_
      refine rhF.iinc (pc := 69) (L' := [(3, rhI _), (2, rhI _), (0, rhR _), (1, rhI _)]) dX12_roomOn_69 3 rfl rfl (by decide) rfl ?_
      refine rhF.goto (pc := 72) 37 dX12_roomOn_72 (by decide) ?_
      refine rhF.sub [2, 3, 1, 0] rfl ?_
      exact ih _ _ _ _
    · refine rhF.iload_n (pc := 75) dX12_roomOn_75 2 rfl ?_
      exact rhF.zret (pc := 76) dX12_roomOn_76 rfl rfl rfl
set_option maxHeartbeats 4000000 in
set_option maxRecDepth 100000 in
theorem b_X12_roomOn_29 {E : rhE} {Γ : rhG} {M : rhM} : ∀ (v0 : Nat) (v1 : Int32) (s0 : Int32) (s1 : Int32), rhF E 5 4 yX12_roomOn cX12_roomOn (some .int) Γ (rhe0I Γ M) (f_X12_roomOn_29 Γ M v0 v1 s0 s1) 29 [(0, rhR v0), (1, rhI v1)] [rhI s1, rhI s0] Γ M := by
  intro v0 v1 s0 s1
  rw [f_X12_roomOn_29]
  refine rhF.iadd (pc := 29) dX12_roomOn_29 ?_
  refine rhF.istore_n (pc := 30) (L' := [(2, rhI _), (0, rhR _), (1, rhI _)]) dX12_roomOn_30 (by decide) rfl ?_
  refine rhF.aload_n (pc := 31) dX12_roomOn_31 1 rfl ?_
  refine rhF.iload_n (pc := 32) dX12_roomOn_32 2 rfl ?_
  refine rhF.ck (fun h6 => ?_)
  refine rhF.callV (pc := 33) (ci := 12) (embc := rhe0I _ _) [rhI _] dX12_roomOn_33 ml_X12_425 mv_X12_beginOf ⟨_, rfl, rfl⟩ h6 (c_X12_beginOf _ _ _ _ _) (by decide) (by decide) rfl (Nat.le_of_ble_eq_true rfl) (fun r7 _ => ?_)
  refine rhF.istore_n (pc := 36) (L' := [(3, rhI _), (2, rhI _), (0, rhR _), (1, rhI _)]) dX12_roomOn_36 (by decide) rfl ?_
  refine rhF.sub [2, 3, 1, 0] rfl ?_
  exact (b_X12_roomOn_37 rhFU) _ _ _ _
set_option maxHeartbeats 4000000 in
set_option maxRecDepth 100000 in
theorem b_X12_roomOn {E : rhE} {Γ : rhG} {M : rhM} : ∀ (v0 : Nat) (v1 : Int32), rhF E 5 4 yX12_roomOn cX12_roomOn (some .int) Γ (rhe0I Γ M) (f_X12_roomOn Γ M v0 v1) 0 [(0, rhR v0), (1, rhI v1)] [] Γ M := by
  intro v0 v1
  rw [f_X12_roomOn]
  refine rhF.aload_n (pc := 0) dX12_roomOn_0 0 rfl ?_
  refine rhF.ck (fun h1 => ?_)
  refine rhF.get (pc := 1) (rhR _) dX12_roomOn_1 fl_X12_42 h1 rfl ?_
  refine rhF.iconst (pc := 4) (v := 5) dX12_roomOn_4 (by decide) ?_
  refine rhF.aload_n (pc := 5) dX12_roomOn_5 0 rfl ?_
  refine rhF.get (pc := 6) (rhI _) dX12_roomOn_6 fl_X12_327 h1 rfl ?_
  refine rhF.imul (pc := 9) dX12_roomOn_9 ?_
  refine rhF.iload_n (pc := 10) dX12_roomOn_10 1 rfl ?_
  refine rhF.iadd (pc := 11) dX12_roomOn_11 ?_
  refine rhF.ck (fun h2 => ?_)
  refine rhF.ck (fun h3 => ?_)
  refine rhF.iald (pc := 12) dX12_roomOn_12 h2 h3 ?_
  refine rhF.iload_n (pc := 13) dX12_roomOn_13 1 rfl ?_
  refine rhF.aload_n (pc := 14) dX12_roomOn_14 0 rfl ?_
  refine rhF.get (pc := 15) (rhI _) dX12_roomOn_15 fl_X12_107 h1 rfl ?_
  refine rhF.icmp_ne (pc := 18) 28 dX12_roomOn_18 (by decide) (fun h4 => ?_) (fun h4 => ?_)
  · refine rhF.aload_n (pc := 21) dX12_roomOn_21 0 rfl ?_
    refine rhF.get (pc := 22) (rhI _) dX12_roomOn_22 fl_X12_422 h1 rfl ?_
    refine rhF.goto (pc := 25) 29 dX12_roomOn_25 (by decide) ?_
    exact (b_X12_roomOn_29) _ _ _ _
  · refine rhF.iconst (pc := 28) (v := 0) dX12_roomOn_28 (by decide) ?_
    exact (b_X12_roomOn_29) _ _ _ _
theorem c_X12_roomOn (E : rhE) (Γ : rhG) (M : rhM) (v0 : Nat) (v1 : Int32) : ∀ a, f_X12_roomOn Γ M v0 v1 = some a → rhC E 5 yX12_roomOn cX12_roomOn 4 (some .int) [rhR v0, rhI v1] Γ M ((rhe0I Γ M) a) := rhF.met (by decide +kernel) (Nat.le_of_ble_eq_true rfl) (b_X12_roomOn v0 v1)
def f_X12_sumOf_13 (Γ : rhG) (M : rhM) : Nat → Nat → Nat → Int32 → Int32 → Int32 → Option (Int32)
  | 0, _, _, _, _, _ => none
  | n + 1, v0, v1, v2, v4, v5 =>
    rhck (Γ.2.2.1 v0 = 13) <|
    rhck (Γ.2.2.1 (M.2.2 v0 40) = 15) <|
    rhck (0 ≤ (v2).toInt ∧ (v2).toInt < (Γ.2.2.2 (M.2.2 v0 40) : Nat)) <|
    if v5 < (M.1 (M.2.2 v0 40) v2.toNatClampNeg) then
      (rhck (Γ.2.2.1 (M.2.2 v0 39) = 15) <|
      rhck (0 ≤ (v5).toInt ∧ (v5).toInt < (Γ.2.2.2 (M.2.2 v0 39) : Nat)) <|
      rhck (Γ.2.2.1 v1 = 15) <|
      rhck (0 ≤ ((8 * (M.1 v0 34)) + (M.1 (M.2.2 v0 39) v5.toNatClampNeg)).toInt ∧ ((8 * (M.1 v0 34)) + (M.1 (M.2.2 v0 39) v5.toNatClampNeg)).toInt < (Γ.2.2.2 v1 : Nat)) <|
      let x13 := v4 + (M.1 v1 ((8 * (M.1 v0 34)) + (M.1 (M.2.2 v0 39) v5.toNatClampNeg)).toNatClampNeg)
      let x14 : Int32 := v5 + 1
      f_X12_sumOf_13 Γ M n v0 v1 v2 x13 x14)
    else
      some v4
def f_X12_sumOf (Γ : rhG) (M : rhM) (v0 : Nat) (v1 : Nat) (v2 : Int32) (v3 : Int32) : Option (Int32) :=
  rhck (Γ.2.2.1 v0 = 13) <|
  rhck (Γ.2.2.1 (M.2.2 v0 40) = 15) <|
  rhck (0 ≤ (v2).toInt ∧ (v2).toInt < (Γ.2.2.2 (M.2.2 v0 40) : Nat)) <|
  let x4 := (M.1 (M.2.2 v0 40) v2.toNatClampNeg) - v3
  f_X12_sumOf_13 Γ M rhFU v0 v1 v2 0 x4
set_option maxHeartbeats 4000000 in
set_option maxRecDepth 100000 in
theorem b_X12_sumOf_13 {E : rhE} {Γ : rhG} {M : rhM} : ∀ (n : Nat) (v0 : Nat) (v1 : Nat) (v2 : Int32) (v4 : Int32) (v5 : Int32), rhF E 1 6 yX12_sumOf cX12_sumOf (some .int) Γ (rhe0I Γ M) (f_X12_sumOf_13 Γ M n v0 v1 v2 v4 v5) 13 [(0, rhR v0), (1, rhR v1), (2, rhI v2), (4, rhI v4), (5, rhI v5)] [] Γ M := by
  intro n
  induction n with
  | zero => intro v0 v1 v2 v4 v5; rw [f_X12_sumOf_13]; exact rhF.nope
  | succ n ih =>
    intro v0 v1 v2 v4 v5
    rw [f_X12_sumOf_13]
    refine rhF.iload (pc := 13) dX12_sumOf_13 4 rfl ?_
    refine rhF.aload_n (pc := 15) dX12_sumOf_15 0 rfl ?_
    refine rhF.ck (fun h5 => ?_)
    refine rhF.get (pc := 16) (rhR _) dX12_sumOf_16 fl_X12_95 h5 rfl ?_
    refine rhF.iload_n (pc := 19) dX12_sumOf_19 2 rfl ?_
    refine rhF.ck (fun h6 => ?_)
    refine rhF.ck (fun h7 => ?_)
    refine rhF.iald (pc := 20) dX12_sumOf_20 h6 h7 ?_
    refine rhF.icmp_ge (pc := 21) 52 dX12_sumOf_21 (by decide) (fun h8 => ?_) (fun h8 => ?_)
    · refine rhF.iload (pc := 24) dX12_sumOf_24 3 rfl ?_
      refine rhF.aload_n (pc := 26) dX12_sumOf_26 1 rfl ?_
      refine rhF.bipush (pc := 27) (v := 8) dX12_sumOf_27 (by decide) ?_
      refine rhF.aload_n (pc := 29) dX12_sumOf_29 0 rfl ?_
      refine rhF.get (pc := 30) (rhI _) dX12_sumOf_30 fl_X12_327 h5 rfl ?_
      refine rhF.imul (pc := 33) dX12_sumOf_33 ?_
      refine rhF.aload_n (pc := 34) dX12_sumOf_34 0 rfl ?_
      refine rhF.get (pc := 35) (rhR _) dX12_sumOf_35 fl_X12_92 h5 rfl ?_
      refine rhF.iload (pc := 38) dX12_sumOf_38 4 rfl ?_
      refine rhF.ck (fun h9 => ?_)
      refine rhF.ck (fun h10 => ?_)
      refine rhF.iald (pc := 40) dX12_sumOf_40 h9 h10 ?_
      refine rhF.iadd (pc := 41) dX12_sumOf_41 ?_
      refine rhF.ck (fun h11 => ?_)
      refine rhF.ck (fun h12 => ?_)
      refine rhF.iald (pc := 42) dX12_sumOf_42 h11 h12 ?_
      refine rhF.iadd (pc := 43) dX12_sumOf_43 ?_
      refine rhF.istore (pc := 44) (L' := [(4, rhI _), (0, rhR _), (1, rhR _), (2, rhI _), (5, rhI _)]) dX12_sumOf_44 (by decide) rfl ?_
      refine rhF.iinc (pc := 46) (L' := [(5, rhI _), (4, rhI _), (0, rhR _), (1, rhR _), (2, rhI _)]) dX12_sumOf_46 4 rfl rfl (by decide) rfl ?_
      refine rhF.goto (pc := 49) 13 dX12_sumOf_49 (by decide) ?_
      refine rhF.sub [2, 3, 4, 1, 0] rfl ?_
      exact ih _ _ _ _ _
    · refine rhF.iload (pc := 52) dX12_sumOf_52 3 rfl ?_
      exact rhF.zret (pc := 54) dX12_sumOf_54 rfl rfl rfl
set_option maxHeartbeats 4000000 in
set_option maxRecDepth 100000 in
theorem b_X12_sumOf {E : rhE} {Γ : rhG} {M : rhM} : ∀ (v0 : Nat) (v1 : Nat) (v2 : Int32) (v3 : Int32), rhF E 1 6 yX12_sumOf cX12_sumOf (some .int) Γ (rhe0I Γ M) (f_X12_sumOf Γ M v0 v1 v2 v3) 0 [(0, rhR v0), (1, rhR v1), (2, rhI v2), (3, rhI v3)] [] Γ M := by
  intro v0 v1 v2 v3
  rw [f_X12_sumOf]
  refine rhF.iconst (pc := 0) (v := 0) dX12_sumOf_0 (by decide) ?_
  refine rhF.istore (pc := 1) (L' := [(4, rhI _), (0, rhR _), (1, rhR _), (2, rhI _), (3, rhI _)]) dX12_sumOf_1 (by decide) rfl ?_
  refine rhF.aload_n (pc := 3) dX12_sumOf_3 1 rfl ?_
  refine rhF.ck (fun h1 => ?_)
  refine rhF.get (pc := 4) (rhR _) dX12_sumOf_4 fl_X12_95 h1 rfl ?_
  refine rhF.iload_n (pc := 7) dX12_sumOf_7 3 rfl ?_
  refine rhF.ck (fun h2 => ?_)
  refine rhF.ck (fun h3 => ?_)
  refine rhF.iald (pc := 8) dX12_sumOf_8 h2 h3 ?_
  refine rhF.iload_n (pc := 9) dX12_sumOf_9 4 rfl ?_
  refine rhF.isub (pc := 10) dX12_sumOf_10 ?_
  refine rhF.istore (pc := 11) (L' := [(5, rhI _), (4, rhI _), (0, rhR _), (1, rhR _), (2, rhI _), (3, rhI _)]) dX12_sumOf_11 (by decide) rfl ?_
  refine rhF.sub [2, 3, 4, 1, 0] rfl ?_
  exact (b_X12_sumOf_13 rhFU) _ _ _ _ _
theorem c_X12_sumOf (E : rhE) (Γ : rhG) (M : rhM) (v0 : Nat) (v1 : Nat) (v2 : Int32) (v3 : Int32) : ∀ a, f_X12_sumOf Γ M v0 v1 v2 v3 = some a → rhC E 1 yX12_sumOf cX12_sumOf 6 (some .int) [rhR v0, rhR v1, rhI v2, rhI v3] Γ M ((rhe0I Γ M) a) := rhF.met (by decide +kernel) (Nat.le_of_ble_eq_true rfl) (b_X12_sumOf v0 v1 v2 v3)
def f_X12_amount_145 (Γ : rhG) (M : rhM) : Nat → Nat → Int32 → Int32 → Int32 → Option (Int32)
  | 0, _, _, _, _ => none
  | n + 1, v0, v1, v2, v5 =>
    rhck (Γ.2.2.1 v0 = 13) <|
    rhck (Γ.2.2.1 (M.2.2 v0 40) = 15) <|
    rhck (0 ≤ (v2).toInt ∧ (v2).toInt < (Γ.2.2.2 (M.2.2 v0 40) : Nat)) <|
    if v5 < (M.1 (M.2.2 v0 40) v2.toNatClampNeg) then
      (rhck (Γ.2.2.1 (M.2.2 v0 39) = 15) <|
      rhck (0 ≤ (v5).toInt ∧ (v5).toInt < (Γ.2.2.2 (M.2.2 v0 39) : Nat)) <|
      rhck (Γ.2.2.1 (M.2.2 v0 30) = 15) <|
      rhck (0 ≤ (v1).toInt ∧ (v1).toInt < (Γ.2.2.2 (M.2.2 v0 30) : Nat)) <|
      if (M.1 (M.2.2 v0 39) v5.toNatClampNeg) = (M.1 (M.2.2 v0 30) v1.toNatClampNeg) then
        (some 1)
      else
        let x18 : Int32 := v5 + 1
        f_X12_amount_145 Γ M n v0 v1 v2 x18)
    else
      some 0
def f_X12_amount (Γ : rhG) (M : rhM) (v0 : Nat) (v1 : Int32) (v2 : Int32) (v3 : Int32) (v4 : Int32) : Option (Int32) :=
  rhck (Γ.2.2.1 v0 = 13) <|
  rhck (Γ.2.2.1 (M.2.2 v0 29) = 15) <|
  rhck (0 ≤ (v1).toInt ∧ (v1).toInt < (Γ.2.2.2 (M.2.2 v0 29) : Nat)) <|
  if (M.1 (M.2.2 v0 29) v1.toNatClampNeg) = 102 then
    (some v2)
  else
  if (M.1 (M.2.2 v0 29) v1.toNatClampNeg) = 103 then
    (rhck (Γ.2.2.1 (M.2.2 v0 40) = 15) <|
    rhck (0 ≤ (v2).toInt ∧ (v2).toInt < (Γ.2.2.2 (M.2.2 v0 40) : Nat)) <|
    let x8 := (M.1 (M.2.2 v0 40) v2.toNatClampNeg) - v3
    f_X12_amount_145 Γ M rhFU v0 v1 v2 x8)
  else
  if (M.1 (M.2.2 v0 29) v1.toNatClampNeg) = 104 then
    (rhck (Γ.2.2.1 (M.2.2 v0 40) = 15) <|
    rhck (0 ≤ (v2).toInt ∧ (v2).toInt < (Γ.2.2.2 (M.2.2 v0 40) : Nat)) <|
    let x22 := (M.1 (M.2.2 v0 40) v2.toNatClampNeg) - v3
    f_X12_amount_145 Γ M rhFU v0 v1 v2 x22)
  else
  if (M.1 (M.2.2 v0 29) v1.toNatClampNeg) = 105 then
    (rhck (Γ.2.2.1 (M.2.2 v0 40) = 15) <|
    rhck (0 ≤ (v2).toInt ∧ (v2).toInt < (Γ.2.2.2 (M.2.2 v0 40) : Nat)) <|
    let x26 := (M.1 (M.2.2 v0 40) v2.toNatClampNeg) - v3
    f_X12_amount_145 Γ M rhFU v0 v1 v2 x26)
  else
  if (M.1 (M.2.2 v0 29) v1.toNatClampNeg) = 106 then
    (rhck (Γ.2.2.1 (M.2.2 v0 40) = 15) <|
    rhck (0 ≤ (v2).toInt ∧ (v2).toInt < (Γ.2.2.2 (M.2.2 v0 40) : Nat)) <|
    let x30 := (M.1 (M.2.2 v0 40) v2.toNatClampNeg) - v3
    f_X12_amount_145 Γ M rhFU v0 v1 v2 x30)
  else
  if (M.1 (M.2.2 v0 29) v1.toNatClampNeg) = 107 then
    (rhck (Γ.2.2.1 (M.2.2 v0 40) = 15) <|
    rhck (0 ≤ (v2).toInt ∧ (v2).toInt < (Γ.2.2.2 (M.2.2 v0 40) : Nat)) <|
    let x34 := (M.1 (M.2.2 v0 40) v2.toNatClampNeg) - v3
    f_X12_amount_145 Γ M rhFU v0 v1 v2 x34)
  else
  if (M.1 (M.2.2 v0 29) v1.toNatClampNeg) = 108 then
    ((f_X12_sumOf Γ M v0 (M.2.2 v0 19) v2 v3).bind fun r36 =>
    some r36)
  else
  if (M.1 (M.2.2 v0 29) v1.toNatClampNeg) = 109 then
    (some v3)
  else
  if (M.1 (M.2.2 v0 29) v1.toNatClampNeg) = 110 then
    (rhck (Γ.2.2.1 (M.2.2 v0 30) = 15) <|
    rhck (0 ≤ (v1).toInt ∧ (v1).toInt < (Γ.2.2.2 (M.2.2 v0 30) : Nat)) <|
    some (M.1 (M.2.2 v0 30) v1.toNatClampNeg))
  else
  if (M.1 (M.2.2 v0 29) v1.toNatClampNeg) = 111 then
    (rhck (Γ.2.2.1 (M.2.2 v0 40) = 15) <|
    rhck (0 ≤ (v2).toInt ∧ (v2).toInt < (Γ.2.2.2 (M.2.2 v0 40) : Nat)) <|
    let x44 := (M.1 (M.2.2 v0 40) v2.toNatClampNeg) - v3
    f_X12_amount_145 Γ M rhFU v0 v1 v2 x44)
  else
  if (M.1 (M.2.2 v0 29) v1.toNatClampNeg) = 112 then
    (rhck (Γ.2.2.1 (M.2.2 v0 40) = 15) <|
    rhck (0 ≤ (v2).toInt ∧ (v2).toInt < (Γ.2.2.2 (M.2.2 v0 40) : Nat)) <|
    let x48 := (M.1 (M.2.2 v0 40) v2.toNatClampNeg) - v3
    f_X12_amount_145 Γ M rhFU v0 v1 v2 x48)
  else
  if (M.1 (M.2.2 v0 29) v1.toNatClampNeg) = 113 then
    (rhck (Γ.2.2.1 (M.2.2 v0 40) = 15) <|
    rhck (0 ≤ (v2).toInt ∧ (v2).toInt < (Γ.2.2.2 (M.2.2 v0 40) : Nat)) <|
    let x52 := (M.1 (M.2.2 v0 40) v2.toNatClampNeg) - v3
    f_X12_amount_145 Γ M rhFU v0 v1 v2 x52)
  else
  if (M.1 (M.2.2 v0 29) v1.toNatClampNeg) = 114 then
    ((f_X12_roomOn Γ M v0 v4).bind fun r54 =>
    some r54)
  else
  if (M.1 (M.2.2 v0 29) v1.toNatClampNeg) = 115 then
    (rhck (Γ.2.2.1 (M.2.2 v0 40) = 15) <|
    rhck (0 ≤ (v2).toInt ∧ (v2).toInt < (Γ.2.2.2 (M.2.2 v0 40) : Nat)) <|
    let x58 := (M.1 (M.2.2 v0 40) v2.toNatClampNeg) - v3
    f_X12_amount_145 Γ M rhFU v0 v1 v2 x58)
  else
  if (M.1 (M.2.2 v0 29) v1.toNatClampNeg) = 116 then
    (some v4)
  else
  if (M.1 (M.2.2 v0 29) v1.toNatClampNeg) = 117 then
    (rhck (Γ.2.2.1 (M.2.2 v0 40) = 15) <|
    rhck (0 ≤ (v2).toInt ∧ (v2).toInt < (Γ.2.2.2 (M.2.2 v0 40) : Nat)) <|
    let x63 := (M.1 (M.2.2 v0 40) v2.toNatClampNeg) - v3
    f_X12_amount_145 Γ M rhFU v0 v1 v2 x63)
  else
  if (M.1 (M.2.2 v0 29) v1.toNatClampNeg) = 118 then
    (rhck (Γ.2.2.1 (M.2.2 v0 40) = 15) <|
    rhck (0 ≤ (v2).toInt ∧ (v2).toInt < (Γ.2.2.2 (M.2.2 v0 40) : Nat)) <|
    let x67 := (M.1 (M.2.2 v0 40) v2.toNatClampNeg) - v3
    f_X12_amount_145 Γ M rhFU v0 v1 v2 x67)
  else
  if (M.1 (M.2.2 v0 29) v1.toNatClampNeg) = 119 then
    ((f_X12_sumOf Γ M v0 (M.2.2 v0 20) v2 v3).bind fun r69 =>
    some r69)
  else
  rhck (Γ.2.2.1 (M.2.2 v0 40) = 15) <|
  rhck (0 ≤ (v2).toInt ∧ (v2).toInt < (Γ.2.2.2 (M.2.2 v0 40) : Nat)) <|
  let x72 := (M.1 (M.2.2 v0 40) v2.toNatClampNeg) - v3
  f_X12_amount_145 Γ M rhFU v0 v1 v2 x72
set_option maxHeartbeats 4000000 in
set_option maxRecDepth 100000 in
theorem b_X12_amount_145 {E : rhE} {Γ : rhG} {M : rhM} : ∀ (n : Nat) (v0 : Nat) (v1 : Int32) (v2 : Int32) (v5 : Int32), rhF E 6 6 yX12_amount cX12_amount (some .int) Γ (rhe0I Γ M) (f_X12_amount_145 Γ M n v0 v1 v2 v5) 145 [(0, rhR v0), (1, rhI v1), (2, rhI v2), (5, rhI v5)] [] Γ M := by
  intro n
  induction n with
  | zero => intro v0 v1 v2 v5; rw [f_X12_amount_145]; exact rhF.nope
  | succ n ih =>
    intro v0 v1 v2 v5
    rw [f_X12_amount_145]
    refine rhF.iload (pc := 145) dX12_amount_145 3 rfl ?_
    refine rhF.aload_n (pc := 147) dX12_amount_147 0 rfl ?_
    refine rhF.ck (fun h9 => ?_)
    refine rhF.get (pc := 148) (rhR _) dX12_amount_148 fl_X12_95 h9 rfl ?_
    refine rhF.iload_n (pc := 151) dX12_amount_151 2 rfl ?_
    refine rhF.ck (fun h10 => ?_)
    refine rhF.ck (fun h11 => ?_)
    refine rhF.iald (pc := 152) dX12_amount_152 h10 h11 ?_
    refine rhF.icmp_ge (pc := 153) 180 dX12_amount_153 (by decide) (fun h12 => ?_) (fun h12 => ?_)
    · refine rhF.aload_n (pc := 156) dX12_amount_156 0 rfl ?_
      refine rhF.get (pc := 157) (rhR _) dX12_amount_157 fl_X12_92 h9 rfl ?_
      refine rhF.iload (pc := 160) dX12_amount_160 3 rfl ?_
      refine rhF.ck (fun h13 => ?_)
      refine rhF.ck (fun h14 => ?_)
      refine rhF.iald (pc := 162) dX12_amount_162 h13 h14 ?_
      refine rhF.aload_n (pc := 163) dX12_amount_163 0 rfl ?_
      refine rhF.get (pc := 164) (rhR _) dX12_amount_164 fl_X12_80 h9 rfl ?_
      refine rhF.iload_n (pc := 167) dX12_amount_167 1 rfl ?_
      refine rhF.ck (fun h15 => ?_)
      refine rhF.ck (fun h16 => ?_)
      refine rhF.iald (pc := 168) dX12_amount_168 h15 h16 ?_
      refine rhF.icmp_ne (pc := 169) 174 dX12_amount_169 (by decide) (fun h17 => ?_) (fun h17 => ?_)
      · refine rhF.iconst (pc := 172) (v := 1) dX12_amount_172 (by decide) ?_
        exact rhF.zret (pc := 173) dX12_amount_173 rfl rfl rfl
      · refine rhF.iinc (pc := 174) (L' := [(5, rhI _), (0, rhR _), (1, rhI _), (2, rhI _)]) dX12_amount_174 3 rfl rfl (by decide) rfl ?_
        refine rhF.goto (pc := 177) 145 dX12_amount_177 (by decide) ?_
        refine rhF.sub [1, 2, 3, 0] rfl ?_
        exact ih _ _ _ _
    · refine rhF.iconst (pc := 180) (v := 0) dX12_amount_180 (by decide) ?_
      exact rhF.zret (pc := 181) dX12_amount_181 rfl rfl rfl
set_option maxHeartbeats 4000000 in
set_option maxRecDepth 100000 in
theorem b_X12_amount {E : rhE} {Γ : rhG} {M : rhM} : ∀ (v0 : Nat) (v1 : Int32) (v2 : Int32) (v3 : Int32) (v4 : Int32), rhF E 6 6 yX12_amount cX12_amount (some .int) Γ (rhe0I Γ M) (f_X12_amount Γ M v0 v1 v2 v3 v4) 0 [(0, rhR v0), (1, rhI v1), (2, rhI v2), (3, rhI v3), (4, rhI v4)] [] Γ M := by
  intro v0 v1 v2 v3 v4
  rw [f_X12_amount]
  refine rhF.aload_n (pc := 0) dX12_amount_0 0 rfl ?_
  refine rhF.ck (fun h1 => ?_)
  refine rhF.get (pc := 1) (rhR _) dX12_amount_1 fl_X12_77 h1 rfl ?_
  refine rhF.iload_n (pc := 4) dX12_amount_4 1 rfl ?_
  refine rhF.ck (fun h2 => ?_)
  refine rhF.ck (fun h3 => ?_)
  refine rhF.iald (pc := 5) dX12_amount_5 h2 h3 ?_
  refine rhF.ite (fun h4 => ?_) (fun h4 => ?_)
  · refine rhF.tsIn (pc := 6) 123 102 dX12_amount_6 (by rw [h4]; decide) (by decide) rfl (by decide) ?_
    refine rhF.iload_n (pc := 123) dX12_amount_123 2 rfl ?_
    exact rhF.zret (pc := 124) dX12_amount_124 rfl rfl rfl
  · skip
    refine rhF.ite (fun h5 => ?_) (fun h5 => ?_)
    · refine rhF.tsIn (pc := 6) 135 103 dX12_amount_6 (by rw [h5]; decide) (by decide) rfl (by decide) ?_
      refine rhF.aload_n (pc := 135) dX12_amount_135 0 rfl ?_
      refine rhF.get (pc := 136) (rhR _) dX12_amount_136 fl_X12_95 h1 rfl ?_
      refine rhF.iload_n (pc := 139) dX12_amount_139 2 rfl ?_
      refine rhF.ck (fun h6 => ?_)
      refine rhF.ck (fun h7 => ?_)
      refine rhF.iald (pc := 140) dX12_amount_140 h6 h7 ?_
      refine rhF.iload_n (pc := 141) dX12_amount_141 3 rfl ?_
      refine rhF.isub (pc := 142) dX12_amount_142 ?_
      refine rhF.istore (pc := 143) (L' := [(5, rhI _), (0, rhR _), (1, rhI _), (2, rhI _), (3, rhI _), (4, rhI _)]) dX12_amount_143 (by decide) rfl ?_
      refine rhF.sub [1, 2, 3, 0] rfl ?_
      exact (b_X12_amount_145 rhFU) _ _ _ _
    · skip
      refine rhF.ite (fun h19 => ?_) (fun h19 => ?_)
      · refine rhF.tsIn (pc := 6) 135 104 dX12_amount_6 (by rw [h19]; decide) (by decide) rfl (by decide) ?_
        refine rhF.aload_n (pc := 135) dX12_amount_135 0 rfl ?_
        refine rhF.get (pc := 136) (rhR _) dX12_amount_136 fl_X12_95 h1 rfl ?_
        refine rhF.iload_n (pc := 139) dX12_amount_139 2 rfl ?_
        refine rhF.ck (fun h20 => ?_)
        refine rhF.ck (fun h21 => ?_)
        refine rhF.iald (pc := 140) dX12_amount_140 h20 h21 ?_
        refine rhF.iload_n (pc := 141) dX12_amount_141 3 rfl ?_
        refine rhF.isub (pc := 142) dX12_amount_142 ?_
        refine rhF.istore (pc := 143) (L' := [(5, rhI _), (0, rhR _), (1, rhI _), (2, rhI _), (3, rhI _), (4, rhI _)]) dX12_amount_143 (by decide) rfl ?_
        refine rhF.sub [1, 2, 3, 0] rfl ?_
        exact (b_X12_amount_145 rhFU) _ _ _ _
      · skip
        refine rhF.ite (fun h23 => ?_) (fun h23 => ?_)
        · refine rhF.tsIn (pc := 6) 135 105 dX12_amount_6 (by rw [h23]; decide) (by decide) rfl (by decide) ?_
          refine rhF.aload_n (pc := 135) dX12_amount_135 0 rfl ?_
          refine rhF.get (pc := 136) (rhR _) dX12_amount_136 fl_X12_95 h1 rfl ?_
          refine rhF.iload_n (pc := 139) dX12_amount_139 2 rfl ?_
          refine rhF.ck (fun h24 => ?_)
          refine rhF.ck (fun h25 => ?_)
          refine rhF.iald (pc := 140) dX12_amount_140 h24 h25 ?_
          refine rhF.iload_n (pc := 141) dX12_amount_141 3 rfl ?_
          refine rhF.isub (pc := 142) dX12_amount_142 ?_
          refine rhF.istore (pc := 143) (L' := [(5, rhI _), (0, rhR _), (1, rhI _), (2, rhI _), (3, rhI _), (4, rhI _)]) dX12_amount_143 (by decide) rfl ?_
          refine rhF.sub [1, 2, 3, 0] rfl ?_
          exact (b_X12_amount_145 rhFU) _ _ _ _
        · skip
          refine rhF.ite (fun h27 => ?_) (fun h27 => ?_)
          · refine rhF.tsIn (pc := 6) 135 106 dX12_amount_6 (by rw [h27]; decide) (by decide) rfl (by decide) ?_
            refine rhF.aload_n (pc := 135) dX12_amount_135 0 rfl ?_
            refine rhF.get (pc := 136) (rhR _) dX12_amount_136 fl_X12_95 h1 rfl ?_
            refine rhF.iload_n (pc := 139) dX12_amount_139 2 rfl ?_
            refine rhF.ck (fun h28 => ?_)
            refine rhF.ck (fun h29 => ?_)
            refine rhF.iald (pc := 140) dX12_amount_140 h28 h29 ?_
            refine rhF.iload_n (pc := 141) dX12_amount_141 3 rfl ?_
            refine rhF.isub (pc := 142) dX12_amount_142 ?_
            refine rhF.istore (pc := 143) (L' := [(5, rhI _), (0, rhR _), (1, rhI _), (2, rhI _), (3, rhI _), (4, rhI _)]) dX12_amount_143 (by decide) rfl ?_
            refine rhF.sub [1, 2, 3, 0] rfl ?_
            exact (b_X12_amount_145 rhFU) _ _ _ _
          · skip
            refine rhF.ite (fun h31 => ?_) (fun h31 => ?_)
            · refine rhF.tsIn (pc := 6) 135 107 dX12_amount_6 (by rw [h31]; decide) (by decide) rfl (by decide) ?_
              refine rhF.aload_n (pc := 135) dX12_amount_135 0 rfl ?_
              refine rhF.get (pc := 136) (rhR _) dX12_amount_136 fl_X12_95 h1 rfl ?_
              refine rhF.iload_n (pc := 139) dX12_amount_139 2 rfl ?_
              refine rhF.ck (fun h32 => ?_)
              refine rhF.ck (fun h33 => ?_)
              refine rhF.iald (pc := 140) dX12_amount_140 h32 h33 ?_
              refine rhF.iload_n (pc := 141) dX12_amount_141 3 rfl ?_
              refine rhF.isub (pc := 142) dX12_amount_142 ?_
              refine rhF.istore (pc := 143) (L' := [(5, rhI _), (0, rhR _), (1, rhI _), (2, rhI _), (3, rhI _), (4, rhI _)]) dX12_amount_143 (by decide) rfl ?_
              refine rhF.sub [1, 2, 3, 0] rfl ?_
              exact (b_X12_amount_145 rhFU) _ _ _ _
            · skip
              refine rhF.ite (fun h35 => ?_) (fun h35 => ?_)
              · refine rhF.tsIn (pc := 6) 112 108 dX12_amount_6 (by rw [h35]; decide) (by decide) rfl (by decide) ?_
                refine rhF.aload_n (pc := 112) dX12_amount_112 0 rfl ?_
                refine rhF.aload_n (pc := 113) dX12_amount_113 0 rfl ?_
                refine rhF.get (pc := 114) (rhR _) dX12_amount_114 fl_X12_45 h1 rfl ?_
                refine rhF.iload_n (pc := 117) dX12_amount_117 2 rfl ?_
                refine rhF.iload_n (pc := 118) dX12_amount_118 3 rfl ?_
                refine rhF.callV (pc := 119) (ci := 12) (embc := rhe0I _ _) [rhR _, rhI _, rhI _] dX12_amount_119 ml_X12_431 mv_X12_sumOf ⟨_, rfl, rfl⟩ h1 (c_X12_sumOf _ _ _ _ _ _ _) (by decide) (by decide) rfl (Nat.le_of_ble_eq_true rfl) (fun r36 _ => ?_)
                exact rhF.zret (pc := 122) dX12_amount_122 rfl rfl rfl
              · skip
                refine rhF.ite (fun h37 => ?_) (fun h37 => ?_)
                · refine rhF.tsIn (pc := 6) 99 109 dX12_amount_6 (by rw [h37]; decide) (by decide) rfl (by decide) ?_
                  refine rhF.iload_n (pc := 99) dX12_amount_99 3 rfl ?_
                  exact rhF.zret (pc := 100) dX12_amount_100 rfl rfl rfl
                · skip
                  refine rhF.ite (fun h38 => ?_) (fun h38 => ?_)
                  · refine rhF.tsIn (pc := 6) 92 110 dX12_amount_6 (by rw [h38]; decide) (by decide) rfl (by decide) ?_
                    refine rhF.aload_n (pc := 92) dX12_amount_92 0 rfl ?_
                    refine rhF.get (pc := 93) (rhR _) dX12_amount_93 fl_X12_80 h1 rfl ?_
                    refine rhF.iload_n (pc := 96) dX12_amount_96 1 rfl ?_
                    refine rhF.ck (fun h39 => ?_)
                    refine rhF.ck (fun h40 => ?_)
                    refine rhF.iald (pc := 97) dX12_amount_97 h39 h40 ?_
                    exact rhF.zret (pc := 98) dX12_amount_98 rfl rfl rfl
                  · skip
                    refine rhF.ite (fun h41 => ?_) (fun h41 => ?_)
                    · refine rhF.tsIn (pc := 6) 135 111 dX12_amount_6 (by rw [h41]; decide) (by decide) rfl (by decide) ?_
                      refine rhF.aload_n (pc := 135) dX12_amount_135 0 rfl ?_
                      refine rhF.get (pc := 136) (rhR _) dX12_amount_136 fl_X12_95 h1 rfl ?_
                      refine rhF.iload_n (pc := 139) dX12_amount_139 2 rfl ?_
                      refine rhF.ck (fun h42 => ?_)
                      refine rhF.ck (fun h43 => ?_)
                      refine rhF.iald (pc := 140) dX12_amount_140 h42 h43 ?_
                      refine rhF.iload_n (pc := 141) dX12_amount_141 3 rfl ?_
                      refine rhF.isub (pc := 142) dX12_amount_142 ?_
                      refine rhF.istore (pc := 143) (L' := [(5, rhI _), (0, rhR _), (1, rhI _), (2, rhI _), (3, rhI _), (4, rhI _)]) dX12_amount_143 (by decide) rfl ?_
                      refine rhF.sub [1, 2, 3, 0] rfl ?_
                      exact (b_X12_amount_145 rhFU) _ _ _ _
                    · skip
                      refine rhF.ite (fun h45 => ?_) (fun h45 => ?_)
                      · refine rhF.tsIn (pc := 6) 135 112 dX12_amount_6 (by rw [h45]; decide) (by decide) rfl (by decide) ?_
                        refine rhF.aload_n (pc := 135) dX12_amount_135 0 rfl ?_
                        refine rhF.get (pc := 136) (rhR _) dX12_amount_136 fl_X12_95 h1 rfl ?_
                        refine rhF.iload_n (pc := 139) dX12_amount_139 2 rfl ?_
                        refine rhF.ck (fun h46 => ?_)
                        refine rhF.ck (fun h47 => ?_)
                        refine rhF.iald (pc := 140) dX12_amount_140 h46 h47 ?_
                        refine rhF.iload_n (pc := 141) dX12_amount_141 3 rfl ?_
                        refine rhF.isub (pc := 142) dX12_amount_142 ?_
                        refine rhF.istore (pc := 143) (L' := [(5, rhI _), (0, rhR _), (1, rhI _), (2, rhI _), (3, rhI _), (4, rhI _)]) dX12_amount_143 (by decide) rfl ?_
                        refine rhF.sub [1, 2, 3, 0] rfl ?_
                        exact (b_X12_amount_145 rhFU) _ _ _ _
                      · skip
                        refine rhF.ite (fun h49 => ?_) (fun h49 => ?_)
                        · refine rhF.tsIn (pc := 6) 135 113 dX12_amount_6 (by rw [h49]; decide) (by decide) rfl (by decide) ?_
                          refine rhF.aload_n (pc := 135) dX12_amount_135 0 rfl ?_
                          refine rhF.get (pc := 136) (rhR _) dX12_amount_136 fl_X12_95 h1 rfl ?_
                          refine rhF.iload_n (pc := 139) dX12_amount_139 2 rfl ?_
                          refine rhF.ck (fun h50 => ?_)
                          refine rhF.ck (fun h51 => ?_)
                          refine rhF.iald (pc := 140) dX12_amount_140 h50 h51 ?_
                          refine rhF.iload_n (pc := 141) dX12_amount_141 3 rfl ?_
                          refine rhF.isub (pc := 142) dX12_amount_142 ?_
                          refine rhF.istore (pc := 143) (L' := [(5, rhI _), (0, rhR _), (1, rhI _), (2, rhI _), (3, rhI _), (4, rhI _)]) dX12_amount_143 (by decide) rfl ?_
                          refine rhF.sub [1, 2, 3, 0] rfl ?_
                          exact (b_X12_amount_145 rhFU) _ _ _ _
                        · skip
                          refine rhF.ite (fun h53 => ?_) (fun h53 => ?_)
                          · refine rhF.tsIn (pc := 6) 128 114 dX12_amount_6 (by rw [h53]; decide) (by decide) rfl (by decide) ?_
                            refine rhF.aload_n (pc := 128) dX12_amount_128 0 rfl ?_
                            refine rhF.iload (pc := 129) dX12_amount_129 4 rfl ?_
                            refine rhF.callV (pc := 131) (ci := 12) (embc := rhe0I _ _) [rhI _] dX12_amount_131 ml_X12_435 mv_X12_roomOn ⟨_, rfl, rfl⟩ h1 (c_X12_roomOn _ _ _ _ _) (by decide) (by decide) rfl (Nat.le_of_ble_eq_true rfl) (fun r54 _ => ?_)
                            exact rhF.zret (pc := 134) dX12_amount_134 rfl rfl rfl
                          · skip
                            refine rhF.ite (fun h55 => ?_) (fun h55 => ?_)
                            · refine rhF.tsIn (pc := 6) 135 115 dX12_amount_6 (by rw [h55]; decide) (by decide) rfl (by decide) ?_
                              refine rhF.aload_n (pc := 135) dX12_amount_135 0 rfl ?_
                              refine rhF.get (pc := 136) (rhR _) dX12_amount_136 fl_X12_95 h1 rfl ?_
                              refine rhF.iload_n (pc := 139) dX12_amount_139 2 rfl ?_
                              refine rhF.ck (fun h56 => ?_)
                              refine rhF.ck (fun h57 => ?_)
                              refine rhF.iald (pc := 140) dX12_amount_140 h56 h57 ?_
                              refine rhF.iload_n (pc := 141) dX12_amount_141 3 rfl ?_
                              refine rhF.isub (pc := 142) dX12_amount_142 ?_
                              refine rhF.istore (pc := 143) (L' := [(5, rhI _), (0, rhR _), (1, rhI _), (2, rhI _), (3, rhI _), (4, rhI _)]) dX12_amount_143 (by decide) rfl ?_
                              refine rhF.sub [1, 2, 3, 0] rfl ?_
                              exact (b_X12_amount_145 rhFU) _ _ _ _
                            · skip
                              refine rhF.ite (fun h59 => ?_) (fun h59 => ?_)
                              · refine rhF.tsIn (pc := 6) 125 116 dX12_amount_6 (by rw [h59]; decide) (by decide) rfl (by decide) ?_
                                refine rhF.iload (pc := 125) dX12_amount_125 4 rfl ?_
                                exact rhF.zret (pc := 127) dX12_amount_127 rfl rfl rfl
                              · skip
                                refine rhF.ite (fun h60 => ?_) (fun h60 => ?_)
                                · refine rhF.tsIn (pc := 6) 135 117 dX12_amount_6 (by rw [h60]; decide) (by decide) rfl (by decide) ?_
                                  refine rhF.aload_n (pc := 135) dX12_amount_135 0 rfl ?_
                                  refine rhF.get (pc := 136) (rhR _) dX12_amount_136 fl_X12_95 h1 rfl ?_
                                  refine rhF.iload_n (pc := 139) dX12_amount_139 2 rfl ?_
                                  refine rhF.ck (fun h61 => ?_)
                                  refine rhF.ck (fun h62 => ?_)
                                  refine rhF.iald (pc := 140) dX12_amount_140 h61 h62 ?_
                                  refine rhF.iload_n (pc := 141) dX12_amount_141 3 rfl ?_
                                  refine rhF.isub (pc := 142) dX12_amount_142 ?_
                                  refine rhF.istore (pc := 143) (L' := [(5, rhI _), (0, rhR _), (1, rhI _), (2, rhI _), (3, rhI _), (4, rhI _)]) dX12_amount_143 (by decide) rfl ?_
                                  refine rhF.sub [1, 2, 3, 0] rfl ?_
                                  exact (b_X12_amount_145 rhFU) _ _ _ _
                                · skip
                                  refine rhF.ite (fun h64 => ?_) (fun h64 => ?_)
                                  · refine rhF.tsIn (pc := 6) 135 118 dX12_amount_6 (by rw [h64]; decide) (by decide) rfl (by decide) ?_
                                    refine rhF.aload_n (pc := 135) dX12_amount_135 0 rfl ?_
                                    refine rhF.get (pc := 136) (rhR _) dX12_amount_136 fl_X12_95 h1 rfl ?_
                                    refine rhF.iload_n (pc := 139) dX12_amount_139 2 rfl ?_
                                    refine rhF.ck (fun h65 => ?_)
                                    refine rhF.ck (fun h66 => ?_)
                                    refine rhF.iald (pc := 140) dX12_amount_140 h65 h66 ?_
                                    refine rhF.iload_n (pc := 141) dX12_amount_141 3 rfl ?_
                                    refine rhF.isub (pc := 142) dX12_amount_142 ?_
                                    refine rhF.istore (pc := 143) (L' := [(5, rhI _), (0, rhR _), (1, rhI _), (2, rhI _), (3, rhI _), (4, rhI _)]) dX12_amount_143 (by decide) rfl ?_
                                    refine rhF.sub [1, 2, 3, 0] rfl ?_
                                    exact (b_X12_amount_145 rhFU) _ _ _ _
                                  · skip
                                    refine rhF.ite (fun h68 => ?_) (fun h68 => ?_)
                                    · refine rhF.tsIn (pc := 6) 101 119 dX12_amount_6 (by rw [h68]; decide) (by decide) rfl (by decide) ?_
                                      refine rhF.aload_n (pc := 101) dX12_amount_101 0 rfl ?_
                                      refine rhF.aload_n (pc := 102) dX12_amount_102 0 rfl ?_
                                      refine rhF.get (pc := 103) (rhR _) dX12_amount_103 fl_X12_48 h1 rfl ?_
                                      refine rhF.iload_n (pc := 106) dX12_amount_106 2 rfl ?_
                                      refine rhF.iload_n (pc := 107) dX12_amount_107 3 rfl ?_
                                      refine rhF.callV (pc := 108) (ci := 12) (embc := rhe0I _ _) [rhR _, rhI _, rhI _] dX12_amount_108 ml_X12_431 mv_X12_sumOf ⟨_, rfl, rfl⟩ h1 (c_X12_sumOf _ _ _ _ _ _ _) (by decide) (by decide) rfl (Nat.le_of_ble_eq_true rfl) (fun r69 _ => ?_)
                                      exact rhF.zret (pc := 111) dX12_amount_111 rfl rfl rfl
                                    · skip
                                      have zh4 := rhne h4 (n := 102) (by decide)
                                      have zh5 := rhne h5 (n := 103) (by decide)
                                      have zh19 := rhne h19 (n := 104) (by decide)
                                      have zh23 := rhne h23 (n := 105) (by decide)
                                      have zh27 := rhne h27 (n := 106) (by decide)
                                      have zh31 := rhne h31 (n := 107) (by decide)
                                      have zh35 := rhne h35 (n := 108) (by decide)
                                      have zh37 := rhne h37 (n := 109) (by decide)
                                      have zh38 := rhne h38 (n := 110) (by decide)
                                      have zh41 := rhne h41 (n := 111) (by decide)
                                      have zh45 := rhne h45 (n := 112) (by decide)
                                      have zh49 := rhne h49 (n := 113) (by decide)
                                      have zh53 := rhne h53 (n := 114) (by decide)
                                      have zh55 := rhne h55 (n := 115) (by decide)
                                      have zh59 := rhne h59 (n := 116) (by decide)
                                      have zh60 := rhne h60 (n := 117) (by decide)
                                      have zh64 := rhne h64 (n := 118) (by decide)
                                      have zh68 := rhne h68 (n := 119) (by decide)
                                      refine rhF.tsOut (pc := 6) 135 dX12_amount_6 (by omega) (by decide) ?_
                                      refine rhF.aload_n (pc := 135) dX12_amount_135 0 rfl ?_
                                      refine rhF.get (pc := 136) (rhR _) dX12_amount_136 fl_X12_95 h1 rfl ?_
                                      refine rhF.iload_n (pc := 139) dX12_amount_139 2 rfl ?_
                                      refine rhF.ck (fun h70 => ?_)
                                      refine rhF.ck (fun h71 => ?_)
                                      refine rhF.iald (pc := 140) dX12_amount_140 h70 h71 ?_
                                      refine rhF.iload_n (pc := 141) dX12_amount_141 3 rfl ?_
                                      refine rhF.isub (pc := 142) dX12_amount_142 ?_
                                      refine rhF.istore (pc := 143) (L' := [(5, rhI _), (0, rhR _), (1, rhI _), (2, rhI _), (3, rhI _), (4, rhI _)]) dX12_amount_143 (by decide) rfl ?_
                                      refine rhF.sub [1, 2, 3, 0] rfl ?_
                                      exact (b_X12_amount_145 rhFU) _ _ _ _
theorem c_X12_amount (E : rhE) (Γ : rhG) (M : rhM) (v0 : Nat) (v1 : Int32) (v2 : Int32) (v3 : Int32) (v4 : Int32) : ∀ a, f_X12_amount Γ M v0 v1 v2 v3 v4 = some a → rhC E 6 yX12_amount cX12_amount 6 (some .int) [rhR v0, rhI v1, rhI v2, rhI v3, rhI v4] Γ M ((rhe0I Γ M) a) := rhF.met (by decide +kernel) (Nat.le_of_ble_eq_true rfl) (b_X12_amount v0 v1 v2 v3 v4)
def f_X12_isIn (Γ : rhG) (M : rhM) (v0 : Int32) (v1 : Int32) (v2 : Int32) : Option (Int32) :=
  if v0 < v1 then
    (some 0)
  else
    if v2 < v0 then
      (some 0)
    else
      some 1
set_option maxHeartbeats 4000000 in
set_option maxRecDepth 100000 in
theorem b_X12_isIn {E : rhE} {Γ : rhG} {M : rhM} : ∀ (v0 : Int32) (v1 : Int32) (v2 : Int32), rhF E 1 3 yX12_isIn cX12_isIn (some .boolean) Γ (rhe0I Γ M) (f_X12_isIn Γ M v0 v1 v2) 0 [(0, rhI v0), (1, rhI v1), (2, rhI v2)] [] Γ M := by
  intro v0 v1 v2
  rw [f_X12_isIn]
  refine rhF.iload_n (pc := 0) dX12_isIn_0 0 rfl ?_
  refine rhF.iload_n (pc := 1) dX12_isIn_1 1 rfl ?_
  refine rhF.icmp_lt (pc := 2) 14 dX12_isIn_2 (by decide) (fun h1 => ?_) (fun h1 => ?_)
  · refine rhF.iconst (pc := 14) (v := 0) dX12_isIn_14 (by decide) ?_
    exact rhF.zret (pc := 15) dX12_isIn_15 rfl rfl rfl
  · refine rhF.iload_n (pc := 5) dX12_isIn_5 0 rfl ?_
    refine rhF.iload_n (pc := 6) dX12_isIn_6 2 rfl ?_
    refine rhF.icmp_gt (pc := 7) 14 dX12_isIn_7 (by decide) (fun h2 => ?_) (fun h2 => ?_)
    · refine rhF.iconst (pc := 14) (v := 0) dX12_isIn_14 (by decide) ?_
      exact rhF.zret (pc := 15) dX12_isIn_15 rfl rfl rfl
    · refine rhF.iconst (pc := 10) (v := 1) dX12_isIn_10 (by decide) ?_
      refine rhF.goto (pc := 11) 15 dX12_isIn_11 (by decide) ?_
      exact rhF.zret (pc := 15) dX12_isIn_15 rfl rfl rfl
theorem c_X12_isIn (E : rhE) (Γ : rhG) (M : rhM) (v0 : Int32) (v1 : Int32) (v2 : Int32) : ∀ a, f_X12_isIn Γ M v0 v1 v2 = some a → rhC E 1 yX12_isIn cX12_isIn 3 (some .boolean) [rhI v0, rhI v1, rhI v2] Γ M ((rhe0I Γ M) a) := rhF.met (by decide +kernel) (Nat.le_of_ble_eq_true rfl) (b_X12_isIn v0 v1 v2)
def f_X12_isRail (Γ : rhG) (M : rhM) (v0 : Nat) (v1 : Int32) : Option (Int32) :=
  rhck (Γ.2.2.1 v0 = 13) <|
  (f_X12_railMany Γ M v0).bind fun r2 =>
  (f_X12_isIn Γ M v1 (0 : Int32) (r2 - 1)).bind fun r3 =>
  rhck (r3 = 0 ∨ r3 = 1) <|
  some r3
set_option maxHeartbeats 4000000 in
set_option maxRecDepth 100000 in
theorem b_X12_isRail {E : rhE} {Γ : rhG} {M : rhM} : ∀ (v0 : Nat) (v1 : Int32), rhF E 5 2 yX12_isRail cX12_isRail (some .boolean) Γ (rhe0I Γ M) (f_X12_isRail Γ M v0 v1) 0 [(0, rhR v0), (1, rhI v1)] [] Γ M := by
  intro v0 v1
  rw [f_X12_isRail]
  refine rhF.iload_n (pc := 0) dX12_isRail_0 1 rfl ?_
  refine rhF.iconst (pc := 1) (v := 0) dX12_isRail_1 (by decide) ?_
  refine rhF.aload_n (pc := 2) dX12_isRail_2 0 rfl ?_
  refine rhF.ck (fun h1 => ?_)
  refine rhF.callV (pc := 3) (ci := 12) (embc := rhe0I _ _) [] dX12_isRail_3 ml_X12_412 mv_X12_railMany ⟨_, rfl, rfl⟩ h1 (c_X12_railMany _ _ _ _) (by decide) (by decide) rfl (Nat.le_of_ble_eq_true rfl) (fun r2 _ => ?_)
  refine rhF.iconst (pc := 6) (v := 1) dX12_isRail_6 (by decide) ?_
  refine rhF.isub (pc := 7) dX12_isRail_7 ?_
  refine rhF.callS (pc := 8) (embc := rhe0I _ _) [rhI _, rhI _, rhI _] dX12_isRail_8 ml_X12_415 ms_X12_isIn (c_X12_isIn _ _ _ _ _ _) (by decide) (by decide) rfl (Nat.le_of_ble_eq_true rfl) (fun r3 _ => ?_)
  refine rhF.ck (fun h4 => ?_)
  exact rhF.zret (pc := 11) dX12_isRail_11 rfl (rhzb h4) rfl
theorem c_X12_isRail (E : rhE) (Γ : rhG) (M : rhM) (v0 : Nat) (v1 : Int32) : ∀ a, f_X12_isRail Γ M v0 v1 = some a → rhC E 5 yX12_isRail cX12_isRail 2 (some .boolean) [rhR v0, rhI v1] Γ M ((rhe0I Γ M) a) := rhF.met (by decide +kernel) (Nat.le_of_ble_eq_true rfl) (b_X12_isRail v0 v1)
def f_X12_canBe (Γ : rhG) (M : rhM) (v0 : Nat) (v1 : Int32) (v2 : Int32) (v3 : Int32) : Option (Int32) :=
  rhck (Γ.2.2.1 v0 = 13) <|
  (f_X12_isRail Γ M v0 v1).bind fun r2 =>
  if r2 = 0 then
    (some 0)
  else
    (f_X12_isRail Γ M v0 v3).bind fun r4 =>
    if r4 = 0 then
      (some 0)
    else
      if v1 = v3 then
        (some 0)
      else
        if v2 < 1 then
          (some 0)
        else
          rhck (Γ.2.2.1 (M.2.2 v0 40) = 15) <|
          rhck (0 ≤ (v1).toInt ∧ (v1).toInt < (Γ.2.2.2 (M.2.2 v0 40) : Nat)) <|
          (f_X12_beginOf Γ M v0 v1).bind fun r10 =>
          if ((M.1 (M.2.2 v0 40) v1.toNatClampNeg) - r10) < v2 then
            (some 0)
          else
            some 1
set_option maxHeartbeats 4000000 in
set_option maxRecDepth 100000 in
theorem b_X12_canBe {E : rhE} {Γ : rhG} {M : rhM} : ∀ (v0 : Nat) (v1 : Int32) (v2 : Int32) (v3 : Int32), rhF E 6 4 yX12_canBe cX12_canBe (some .boolean) Γ (rhe0I Γ M) (f_X12_canBe Γ M v0 v1 v2 v3) 0 [(0, rhR v0), (1, rhI v1), (2, rhI v2), (3, rhI v3)] [] Γ M := by
  intro v0 v1 v2 v3
  rw [f_X12_canBe]
  refine rhF.aload_n (pc := 0) dX12_canBe_0 0 rfl ?_
  refine rhF.iload_n (pc := 1) dX12_canBe_1 1 rfl ?_
  refine rhF.ck (fun h1 => ?_)
  refine rhF.callV (pc := 2) (ci := 12) (embc := rhe0I _ _) [rhI _] dX12_canBe_2 ml_X12_428 mv_X12_isRail ⟨_, rfl, rfl⟩ h1 (c_X12_isRail _ _ _ _ _) (by decide) (by decide) rfl (Nat.le_of_ble_eq_true rfl) (fun r2 _ => ?_)
  refine rhF.if_eq (pc := 5) 46 dX12_canBe_5 (by decide) (fun h3 => ?_) (fun h3 => ?_)
  · refine rhF.iconst (pc := 46) (v := 0) dX12_canBe_46 (by decide) ?_
    exact rhF.zret (pc := 47) dX12_canBe_47 rfl rfl rfl
  · refine rhF.aload_n (pc := 8) dX12_canBe_8 0 rfl ?_
    refine rhF.iload_n (pc := 9) dX12_canBe_9 3 rfl ?_
    refine rhF.callV (pc := 10) (ci := 12) (embc := rhe0I _ _) [rhI _] dX12_canBe_10 ml_X12_428 mv_X12_isRail ⟨_, rfl, rfl⟩ h1 (c_X12_isRail _ _ _ _ _) (by decide) (by decide) rfl (Nat.le_of_ble_eq_true rfl) (fun r4 _ => ?_)
    refine rhF.if_eq (pc := 13) 46 dX12_canBe_13 (by decide) (fun h5 => ?_) (fun h5 => ?_)
    · refine rhF.iconst (pc := 46) (v := 0) dX12_canBe_46 (by decide) ?_
      exact rhF.zret (pc := 47) dX12_canBe_47 rfl rfl rfl
    · refine rhF.iload_n (pc := 16) dX12_canBe_16 1 rfl ?_
      refine rhF.iload_n (pc := 17) dX12_canBe_17 3 rfl ?_
      refine rhF.icmp_eq (pc := 18) 46 dX12_canBe_18 (by decide) (fun h6 => ?_) (fun h6 => ?_)
      · refine rhF.iconst (pc := 46) (v := 0) dX12_canBe_46 (by decide) ?_
        exact rhF.zret (pc := 47) dX12_canBe_47 rfl rfl rfl
      · refine rhF.iload_n (pc := 21) dX12_canBe_21 2 rfl ?_
        refine rhF.iconst (pc := 22) (v := 1) dX12_canBe_22 (by decide) ?_
        refine rhF.icmp_lt (pc := 23) 46 dX12_canBe_23 (by decide) (fun h7 => ?_) (fun h7 => ?_)
        · refine rhF.iconst (pc := 46) (v := 0) dX12_canBe_46 (by decide) ?_
          exact rhF.zret (pc := 47) dX12_canBe_47 rfl rfl rfl
        · refine rhF.iload_n (pc := 26) dX12_canBe_26 2 rfl ?_
          refine rhF.aload_n (pc := 27) dX12_canBe_27 0 rfl ?_
          refine rhF.get (pc := 28) (rhR _) dX12_canBe_28 fl_X12_95 h1 rfl ?_
          refine rhF.iload_n (pc := 31) dX12_canBe_31 1 rfl ?_
          refine rhF.ck (fun h8 => ?_)
          refine rhF.ck (fun h9 => ?_)
          refine rhF.iald (pc := 32) dX12_canBe_32 h8 h9 ?_
          refine rhF.aload_n (pc := 33) dX12_canBe_33 0 rfl ?_
          refine rhF.iload_n (pc := 34) dX12_canBe_34 1 rfl ?_
          refine rhF.callV (pc := 35) (ci := 12) (embc := rhe0I _ _) [rhI _] dX12_canBe_35 ml_X12_425 mv_X12_beginOf ⟨_, rfl, rfl⟩ h1 (c_X12_beginOf _ _ _ _ _) (by decide) (by decide) rfl (Nat.le_of_ble_eq_true rfl) (fun r10 _ => ?_)
          refine rhF.isub (pc := 38) dX12_canBe_38 ?_
          refine rhF.icmp_gt (pc := 39) 46 dX12_canBe_39 (by decide) (fun h11 => ?_) (fun h11 => ?_)
          · refine rhF.iconst (pc := 46) (v := 0) dX12_canBe_46 (by decide) ?_
            exact rhF.zret (pc := 47) dX12_canBe_47 rfl rfl rfl
          · refine rhF.iconst (pc := 42) (v := 1) dX12_canBe_42 (by decide) ?_
            refine rhF.goto (pc := 43) 47 dX12_canBe_43 (by decide) ?_
            exact rhF.zret (pc := 47) dX12_canBe_47 rfl rfl rfl
theorem c_X12_canBe (E : rhE) (Γ : rhG) (M : rhM) (v0 : Nat) (v1 : Int32) (v2 : Int32) (v3 : Int32) : ∀ a, f_X12_canBe Γ M v0 v1 v2 v3 = some a → rhC E 6 yX12_canBe cX12_canBe 4 (some .boolean) [rhR v0, rhI v1, rhI v2, rhI v3] Γ M ((rhe0I Γ M) a) := rhF.met (by decide +kernel) (Nat.le_of_ble_eq_true rfl) (b_X12_canBe v0 v1 v2 v3)
def f_X12_two (Γ : rhG) (M : rhM) (v0 : Int32) (v1 : Int32) (v2 : Int32) : Option (Int32) :=
  if v0 = 38 then
    (if v1 = 0 then
      (some 0)
    else
      if v2 = 0 then
        (some 0)
      else
        some 1)
  else
  if v0 = 39 then
    (if v1 = 0 then
      (if v2 = 0 then
        (some 0)
      else
        some 1)
    else
      some 1)
  else
  if v0 = 40 then
    (if v1 = 0 then
      (if v2 = 0 then
        (some 0)
      else
        some 1)
    else
      some 1)
  else
  if v0 = 41 then
    (if v1 = 0 then
      (if v2 = 0 then
        (some 0)
      else
        some 1)
    else
      some 1)
  else
  if v0 = 42 then
    (some (v1 * v2))
  else
  if v0 = 43 then
    (some (v1 + v2))
  else
  if v0 = 44 then
    (if v1 = 0 then
      (if v2 = 0 then
        (some 0)
      else
        some 1)
    else
      some 1)
  else
  if v0 = 45 then
    (some (v1 - v2))
  else
  if v0 = 46 then
    (if v1 = 0 then
      (if v2 = 0 then
        (some 0)
      else
        some 1)
    else
      some 1)
  else
  if v0 = 47 then
    (if v2 = 0 then
      (some 0)
    else
      rhck (¬ v2 = 0) <|
      some (v1 / v2))
  else
  if v0 = 48 then
    (if v1 = 0 then
      (if v2 = 0 then
        (some 0)
      else
        some 1)
    else
      some 1)
  else
  if v0 = 49 then
    (if v1 = 0 then
      (if v2 = 0 then
        (some 0)
      else
        some 1)
    else
      some 1)
  else
  if v0 = 50 then
    (if v1 = 0 then
      (if v2 = 0 then
        (some 0)
      else
        some 1)
    else
      some 1)
  else
  if v0 = 51 then
    (if v1 = 0 then
      (if v2 = 0 then
        (some 0)
      else
        some 1)
    else
      some 1)
  else
  if v0 = 52 then
    (if v1 = 0 then
      (if v2 = 0 then
        (some 0)
      else
        some 1)
    else
      some 1)
  else
  if v0 = 53 then
    (if v1 = 0 then
      (if v2 = 0 then
        (some 0)
      else
        some 1)
    else
      some 1)
  else
  if v0 = 54 then
    (if v1 = 0 then
      (if v2 = 0 then
        (some 0)
      else
        some 1)
    else
      some 1)
  else
  if v0 = 55 then
    (if v1 = 0 then
      (if v2 = 0 then
        (some 0)
      else
        some 1)
    else
      some 1)
  else
  if v0 = 56 then
    (if v1 = 0 then
      (if v2 = 0 then
        (some 0)
      else
        some 1)
    else
      some 1)
  else
  if v0 = 57 then
    (if v1 = 0 then
      (if v2 = 0 then
        (some 0)
      else
        some 1)
    else
      some 1)
  else
  if v0 = 58 then
    (if v1 = 0 then
      (if v2 = 0 then
        (some 0)
      else
        some 1)
    else
      some 1)
  else
  if v0 = 59 then
    (if v1 = 0 then
      (if v2 = 0 then
        (some 0)
      else
        some 1)
    else
      some 1)
  else
  if v0 = 60 then
    (if v1 < v2 then
      (some 1)
    else
      some 0)
  else
  if v0 = 61 then
    (if v1 = v2 then
      (some 1)
    else
      some 0)
  else
  if v0 = 62 then
    (if v2 < v1 then
      (some 1)
    else
      some 0)
  else
  if v1 = 0 then
    (if v2 = 0 then
      (some 0)
    else
      some 1)
  else
    some 1
set_option maxHeartbeats 4000000 in
set_option maxRecDepth 100000 in
theorem b_X12_two {E : rhE} {Γ : rhG} {M : rhM} : ∀ (v0 : Int32) (v1 : Int32) (v2 : Int32), rhF E 1 3 yX12_two cX12_two (some .int) Γ (rhe0I Γ M) (f_X12_two Γ M v0 v1 v2) 0 [(0, rhI v0), (1, rhI v1), (2, rhI v2)] [] Γ M := by
  intro v0 v1 v2
  rw [f_X12_two]
  refine rhF.iload_n (pc := 0) dX12_two_0 0 rfl ?_
  refine rhF.ite (fun h1 => ?_) (fun h1 => ?_)
  · refine rhF.tsIn (pc := 1) 173 38 dX12_two_1 (by rw [h1]; decide) (by decide) rfl (by decide) ?_
    refine rhF.iload_n (pc := 173) dX12_two_173 1 rfl ?_
    refine rhF.if_eq (pc := 174) 185 dX12_two_174 (by decide) (fun h2 => ?_) (fun h2 => ?_)
    · refine rhF.iconst (pc := 185) (v := 0) dX12_two_185 (by decide) ?_
      exact rhF.zret (pc := 186) dX12_two_186 rfl rfl rfl
    · refine rhF.iload_n (pc := 177) dX12_two_177 2 rfl ?_
      refine rhF.if_eq (pc := 178) 185 dX12_two_178 (by decide) (fun h3 => ?_) (fun h3 => ?_)
      · refine rhF.iconst (pc := 185) (v := 0) dX12_two_185 (by decide) ?_
        exact rhF.zret (pc := 186) dX12_two_186 rfl rfl rfl
      · refine rhF.iconst (pc := 181) (v := 1) dX12_two_181 (by decide) ?_
        refine rhF.goto (pc := 182) 186 dX12_two_182 (by decide) ?_
        exact rhF.zret (pc := 186) dX12_two_186 rfl rfl rfl
  · skip
    refine rhF.ite (fun h4 => ?_) (fun h4 => ?_)
    · refine rhF.tsIn (pc := 1) 187 39 dX12_two_1 (by rw [h4]; decide) (by decide) rfl (by decide) ?_
      refine rhF.iload_n (pc := 187) dX12_two_187 1 rfl ?_
      refine rhF.if_ne (pc := 188) 195 dX12_two_188 (by decide) (fun h5 => ?_) (fun h5 => ?_)
      · refine rhF.iload_n (pc := 191) dX12_two_191 2 rfl ?_
        refine rhF.if_eq (pc := 192) 199 dX12_two_192 (by decide) (fun h6 => ?_) (fun h6 => ?_)
        · refine rhF.iconst (pc := 199) (v := 0) dX12_two_199 (by decide) ?_
          exact rhF.zret (pc := 200) dX12_two_200 rfl rfl rfl
        · refine rhF.iconst (pc := 195) (v := 1) dX12_two_195 (by decide) ?_
          refine rhF.goto (pc := 196) 200 dX12_two_196 (by decide) ?_
          exact rhF.zret (pc := 200) dX12_two_200 rfl rfl rfl
      · refine rhF.iconst (pc := 195) (v := 1) dX12_two_195 (by decide) ?_
        refine rhF.goto (pc := 196) 200 dX12_two_196 (by decide) ?_
        exact rhF.zret (pc := 200) dX12_two_200 rfl rfl rfl
    · skip
      refine rhF.ite (fun h7 => ?_) (fun h7 => ?_)
      · refine rhF.tsIn (pc := 1) 187 40 dX12_two_1 (by rw [h7]; decide) (by decide) rfl (by decide) ?_
        refine rhF.iload_n (pc := 187) dX12_two_187 1 rfl ?_
        refine rhF.if_ne (pc := 188) 195 dX12_two_188 (by decide) (fun h8 => ?_) (fun h8 => ?_)
        · refine rhF.iload_n (pc := 191) dX12_two_191 2 rfl ?_
          refine rhF.if_eq (pc := 192) 199 dX12_two_192 (by decide) (fun h9 => ?_) (fun h9 => ?_)
          · refine rhF.iconst (pc := 199) (v := 0) dX12_two_199 (by decide) ?_
            exact rhF.zret (pc := 200) dX12_two_200 rfl rfl rfl
          · refine rhF.iconst (pc := 195) (v := 1) dX12_two_195 (by decide) ?_
            refine rhF.goto (pc := 196) 200 dX12_two_196 (by decide) ?_
            exact rhF.zret (pc := 200) dX12_two_200 rfl rfl rfl
        · refine rhF.iconst (pc := 195) (v := 1) dX12_two_195 (by decide) ?_
          refine rhF.goto (pc := 196) 200 dX12_two_196 (by decide) ?_
          exact rhF.zret (pc := 200) dX12_two_200 rfl rfl rfl
      · skip
        refine rhF.ite (fun h10 => ?_) (fun h10 => ?_)
        · refine rhF.tsIn (pc := 1) 187 41 dX12_two_1 (by rw [h10]; decide) (by decide) rfl (by decide) ?_
          refine rhF.iload_n (pc := 187) dX12_two_187 1 rfl ?_
          refine rhF.if_ne (pc := 188) 195 dX12_two_188 (by decide) (fun h11 => ?_) (fun h11 => ?_)
          · refine rhF.iload_n (pc := 191) dX12_two_191 2 rfl ?_
            refine rhF.if_eq (pc := 192) 199 dX12_two_192 (by decide) (fun h12 => ?_) (fun h12 => ?_)
            · refine rhF.iconst (pc := 199) (v := 0) dX12_two_199 (by decide) ?_
              exact rhF.zret (pc := 200) dX12_two_200 rfl rfl rfl
            · refine rhF.iconst (pc := 195) (v := 1) dX12_two_195 (by decide) ?_
              refine rhF.goto (pc := 196) 200 dX12_two_196 (by decide) ?_
              exact rhF.zret (pc := 200) dX12_two_200 rfl rfl rfl
          · refine rhF.iconst (pc := 195) (v := 1) dX12_two_195 (by decide) ?_
            refine rhF.goto (pc := 196) 200 dX12_two_196 (by decide) ?_
            exact rhF.zret (pc := 200) dX12_two_200 rfl rfl rfl
        · skip
          refine rhF.ite (fun h13 => ?_) (fun h13 => ?_)
          · refine rhF.tsIn (pc := 1) 124 42 dX12_two_1 (by rw [h13]; decide) (by decide) rfl (by decide) ?_
            refine rhF.iload_n (pc := 124) dX12_two_124 1 rfl ?_
            refine rhF.iload_n (pc := 125) dX12_two_125 2 rfl ?_
            refine rhF.imul (pc := 126) dX12_two_126 ?_
            exact rhF.zret (pc := 127) dX12_two_127 rfl rfl rfl
          · skip
            refine rhF.ite (fun h14 => ?_) (fun h14 => ?_)
            · refine rhF.tsIn (pc := 1) 116 43 dX12_two_1 (by rw [h14]; decide) (by decide) rfl (by decide) ?_
              refine rhF.iload_n (pc := 116) dX12_two_116 1 rfl ?_
              refine rhF.iload_n (pc := 117) dX12_two_117 2 rfl ?_
              refine rhF.iadd (pc := 118) dX12_two_118 ?_
              exact rhF.zret (pc := 119) dX12_two_119 rfl rfl rfl
            · skip
              refine rhF.ite (fun h15 => ?_) (fun h15 => ?_)
              · refine rhF.tsIn (pc := 1) 187 44 dX12_two_1 (by rw [h15]; decide) (by decide) rfl (by decide) ?_
                refine rhF.iload_n (pc := 187) dX12_two_187 1 rfl ?_
                refine rhF.if_ne (pc := 188) 195 dX12_two_188 (by decide) (fun h16 => ?_) (fun h16 => ?_)
                · refine rhF.iload_n (pc := 191) dX12_two_191 2 rfl ?_
                  refine rhF.if_eq (pc := 192) 199 dX12_two_192 (by decide) (fun h17 => ?_) (fun h17 => ?_)
                  · refine rhF.iconst (pc := 199) (v := 0) dX12_two_199 (by decide) ?_
                    exact rhF.zret (pc := 200) dX12_two_200 rfl rfl rfl
                  · refine rhF.iconst (pc := 195) (v := 1) dX12_two_195 (by decide) ?_
                    refine rhF.goto (pc := 196) 200 dX12_two_196 (by decide) ?_
                    exact rhF.zret (pc := 200) dX12_two_200 rfl rfl rfl
                · refine rhF.iconst (pc := 195) (v := 1) dX12_two_195 (by decide) ?_
                  refine rhF.goto (pc := 196) 200 dX12_two_196 (by decide) ?_
                  exact rhF.zret (pc := 200) dX12_two_200 rfl rfl rfl
              · skip
                refine rhF.ite (fun h18 => ?_) (fun h18 => ?_)
                · refine rhF.tsIn (pc := 1) 120 45 dX12_two_1 (by rw [h18]; decide) (by decide) rfl (by decide) ?_
                  refine rhF.iload_n (pc := 120) dX12_two_120 1 rfl ?_
                  refine rhF.iload_n (pc := 121) dX12_two_121 2 rfl ?_
                  refine rhF.isub (pc := 122) dX12_two_122 ?_
                  exact rhF.zret (pc := 123) dX12_two_123 rfl rfl rfl
                · skip
                  refine rhF.ite (fun h19 => ?_) (fun h19 => ?_)
                  · refine rhF.tsIn (pc := 1) 187 46 dX12_two_1 (by rw [h19]; decide) (by decide) rfl (by decide) ?_
                    refine rhF.iload_n (pc := 187) dX12_two_187 1 rfl ?_
                    refine rhF.if_ne (pc := 188) 195 dX12_two_188 (by decide) (fun h20 => ?_) (fun h20 => ?_)
                    · refine rhF.iload_n (pc := 191) dX12_two_191 2 rfl ?_
                      refine rhF.if_eq (pc := 192) 199 dX12_two_192 (by decide) (fun h21 => ?_) (fun h21 => ?_)
                      · refine rhF.iconst (pc := 199) (v := 0) dX12_two_199 (by decide) ?_
                        exact rhF.zret (pc := 200) dX12_two_200 rfl rfl rfl
                      · refine rhF.iconst (pc := 195) (v := 1) dX12_two_195 (by decide) ?_
                        refine rhF.goto (pc := 196) 200 dX12_two_196 (by decide) ?_
                        exact rhF.zret (pc := 200) dX12_two_200 rfl rfl rfl
                    · refine rhF.iconst (pc := 195) (v := 1) dX12_two_195 (by decide) ?_
                      refine rhF.goto (pc := 196) 200 dX12_two_196 (by decide) ?_
                      exact rhF.zret (pc := 200) dX12_two_200 rfl rfl rfl
                  · skip
                    refine rhF.ite (fun h22 => ?_) (fun h22 => ?_)
                    · refine rhF.tsIn (pc := 1) 128 47 dX12_two_1 (by rw [h22]; decide) (by decide) rfl (by decide) ?_
                      refine rhF.iload_n (pc := 128) dX12_two_128 2 rfl ?_
                      refine rhF.if_ne (pc := 129) 136 dX12_two_129 (by decide) (fun h23 => ?_) (fun h23 => ?_)
                      · refine rhF.iconst (pc := 132) (v := 0) dX12_two_132 (by decide) ?_
                        refine rhF.goto (pc := 133) 139 dX12_two_133 (by decide) ?_
                        exact rhF.zret (pc := 139) dX12_two_139 rfl rfl rfl
                      · refine rhF.iload_n (pc := 136) dX12_two_136 1 rfl ?_
                        refine rhF.iload_n (pc := 137) dX12_two_137 2 rfl ?_
                        refine rhF.ck (fun h24 => ?_)
                        refine rhF.idivc (pc := 138) dX12_two_138 h24 ?_
                        exact rhF.zret (pc := 139) dX12_two_139 rfl rfl rfl
                    · skip
                      refine rhF.ite (fun h25 => ?_) (fun h25 => ?_)
                      · refine rhF.tsIn (pc := 1) 187 48 dX12_two_1 (by rw [h25]; decide) (by decide) rfl (by decide) ?_
                        refine rhF.iload_n (pc := 187) dX12_two_187 1 rfl ?_
                        refine rhF.if_ne (pc := 188) 195 dX12_two_188 (by decide) (fun h26 => ?_) (fun h26 => ?_)
                        · refine rhF.iload_n (pc := 191) dX12_two_191 2 rfl ?_
                          refine rhF.if_eq (pc := 192) 199 dX12_two_192 (by decide) (fun h27 => ?_) (fun h27 => ?_)
                          · refine rhF.iconst (pc := 199) (v := 0) dX12_two_199 (by decide) ?_
                            exact rhF.zret (pc := 200) dX12_two_200 rfl rfl rfl
                          · refine rhF.iconst (pc := 195) (v := 1) dX12_two_195 (by decide) ?_
                            refine rhF.goto (pc := 196) 200 dX12_two_196 (by decide) ?_
                            exact rhF.zret (pc := 200) dX12_two_200 rfl rfl rfl
                        · refine rhF.iconst (pc := 195) (v := 1) dX12_two_195 (by decide) ?_
                          refine rhF.goto (pc := 196) 200 dX12_two_196 (by decide) ?_
                          exact rhF.zret (pc := 200) dX12_two_200 rfl rfl rfl
                      · skip
                        refine rhF.ite (fun h28 => ?_) (fun h28 => ?_)
                        · refine rhF.tsIn (pc := 1) 187 49 dX12_two_1 (by rw [h28]; decide) (by decide) rfl (by decide) ?_
                          refine rhF.iload_n (pc := 187) dX12_two_187 1 rfl ?_
                          refine rhF.if_ne (pc := 188) 195 dX12_two_188 (by decide) (fun h29 => ?_) (fun h29 => ?_)
                          · refine rhF.iload_n (pc := 191) dX12_two_191 2 rfl ?_
                            refine rhF.if_eq (pc := 192) 199 dX12_two_192 (by decide) (fun h30 => ?_) (fun h30 => ?_)
                            · refine rhF.iconst (pc := 199) (v := 0) dX12_two_199 (by decide) ?_
                              exact rhF.zret (pc := 200) dX12_two_200 rfl rfl rfl
                            · refine rhF.iconst (pc := 195) (v := 1) dX12_two_195 (by decide) ?_
                              refine rhF.goto (pc := 196) 200 dX12_two_196 (by decide) ?_
                              exact rhF.zret (pc := 200) dX12_two_200 rfl rfl rfl
                          · refine rhF.iconst (pc := 195) (v := 1) dX12_two_195 (by decide) ?_
                            refine rhF.goto (pc := 196) 200 dX12_two_196 (by decide) ?_
                            exact rhF.zret (pc := 200) dX12_two_200 rfl rfl rfl
                        · skip
                          refine rhF.ite (fun h31 => ?_) (fun h31 => ?_)
                          · refine rhF.tsIn (pc := 1) 187 50 dX12_two_1 (by rw [h31]; decide) (by decide) rfl (by decide) ?_
                            refine rhF.iload_n (pc := 187) dX12_two_187 1 rfl ?_
                            refine rhF.if_ne (pc := 188) 195 dX12_two_188 (by decide) (fun h32 => ?_) (fun h32 => ?_)
                            · refine rhF.iload_n (pc := 191) dX12_two_191 2 rfl ?_
                              refine rhF.if_eq (pc := 192) 199 dX12_two_192 (by decide) (fun h33 => ?_) (fun h33 => ?_)
                              · refine rhF.iconst (pc := 199) (v := 0) dX12_two_199 (by decide) ?_
                                exact rhF.zret (pc := 200) dX12_two_200 rfl rfl rfl
                              · refine rhF.iconst (pc := 195) (v := 1) dX12_two_195 (by decide) ?_
                                refine rhF.goto (pc := 196) 200 dX12_two_196 (by decide) ?_
                                exact rhF.zret (pc := 200) dX12_two_200 rfl rfl rfl
                            · refine rhF.iconst (pc := 195) (v := 1) dX12_two_195 (by decide) ?_
                              refine rhF.goto (pc := 196) 200 dX12_two_196 (by decide) ?_
                              exact rhF.zret (pc := 200) dX12_two_200 rfl rfl rfl
                          · skip
                            refine rhF.ite (fun h34 => ?_) (fun h34 => ?_)
                            · refine rhF.tsIn (pc := 1) 187 51 dX12_two_1 (by rw [h34]; decide) (by decide) rfl (by decide) ?_
                              refine rhF.iload_n (pc := 187) dX12_two_187 1 rfl ?_
                              refine rhF.if_ne (pc := 188) 195 dX12_two_188 (by decide) (fun h35 => ?_) (fun h35 => ?_)
                              · refine rhF.iload_n (pc := 191) dX12_two_191 2 rfl ?_
                                refine rhF.if_eq (pc := 192) 199 dX12_two_192 (by decide) (fun h36 => ?_) (fun h36 => ?_)
                                · refine rhF.iconst (pc := 199) (v := 0) dX12_two_199 (by decide) ?_
                                  exact rhF.zret (pc := 200) dX12_two_200 rfl rfl rfl
                                · refine rhF.iconst (pc := 195) (v := 1) dX12_two_195 (by decide) ?_
                                  refine rhF.goto (pc := 196) 200 dX12_two_196 (by decide) ?_
                                  exact rhF.zret (pc := 200) dX12_two_200 rfl rfl rfl
                              · refine rhF.iconst (pc := 195) (v := 1) dX12_two_195 (by decide) ?_
                                refine rhF.goto (pc := 196) 200 dX12_two_196 (by decide) ?_
                                exact rhF.zret (pc := 200) dX12_two_200 rfl rfl rfl
                            · skip
                              refine rhF.ite (fun h37 => ?_) (fun h37 => ?_)
                              · refine rhF.tsIn (pc := 1) 187 52 dX12_two_1 (by rw [h37]; decide) (by decide) rfl (by decide) ?_
                                refine rhF.iload_n (pc := 187) dX12_two_187 1 rfl ?_
                                refine rhF.if_ne (pc := 188) 195 dX12_two_188 (by decide) (fun h38 => ?_) (fun h38 => ?_)
                                · refine rhF.iload_n (pc := 191) dX12_two_191 2 rfl ?_
                                  refine rhF.if_eq (pc := 192) 199 dX12_two_192 (by decide) (fun h39 => ?_) (fun h39 => ?_)
                                  · refine rhF.iconst (pc := 199) (v := 0) dX12_two_199 (by decide) ?_
                                    exact rhF.zret (pc := 200) dX12_two_200 rfl rfl rfl
                                  · refine rhF.iconst (pc := 195) (v := 1) dX12_two_195 (by decide) ?_
                                    refine rhF.goto (pc := 196) 200 dX12_two_196 (by decide) ?_
                                    exact rhF.zret (pc := 200) dX12_two_200 rfl rfl rfl
                                · refine rhF.iconst (pc := 195) (v := 1) dX12_two_195 (by decide) ?_
                                  refine rhF.goto (pc := 196) 200 dX12_two_196 (by decide) ?_
                                  exact rhF.zret (pc := 200) dX12_two_200 rfl rfl rfl
                              · skip
                                refine rhF.ite (fun h40 => ?_) (fun h40 => ?_)
                                · refine rhF.tsIn (pc := 1) 187 53 dX12_two_1 (by rw [h40]; decide) (by decide) rfl (by decide) ?_
                                  refine rhF.iload_n (pc := 187) dX12_two_187 1 rfl ?_
                                  refine rhF.if_ne (pc := 188) 195 dX12_two_188 (by decide) (fun h41 => ?_) (fun h41 => ?_)
                                  · refine rhF.iload_n (pc := 191) dX12_two_191 2 rfl ?_
                                    refine rhF.if_eq (pc := 192) 199 dX12_two_192 (by decide) (fun h42 => ?_) (fun h42 => ?_)
                                    · refine rhF.iconst (pc := 199) (v := 0) dX12_two_199 (by decide) ?_
                                      exact rhF.zret (pc := 200) dX12_two_200 rfl rfl rfl
                                    · refine rhF.iconst (pc := 195) (v := 1) dX12_two_195 (by decide) ?_
                                      refine rhF.goto (pc := 196) 200 dX12_two_196 (by decide) ?_
                                      exact rhF.zret (pc := 200) dX12_two_200 rfl rfl rfl
                                  · refine rhF.iconst (pc := 195) (v := 1) dX12_two_195 (by decide) ?_
                                    refine rhF.goto (pc := 196) 200 dX12_two_196 (by decide) ?_
                                    exact rhF.zret (pc := 200) dX12_two_200 rfl rfl rfl
                                · skip
                                  refine rhF.ite (fun h43 => ?_) (fun h43 => ?_)
                                  · refine rhF.tsIn (pc := 1) 187 54 dX12_two_1 (by rw [h43]; decide) (by decide) rfl (by decide) ?_
                                    refine rhF.iload_n (pc := 187) dX12_two_187 1 rfl ?_
                                    refine rhF.if_ne (pc := 188) 195 dX12_two_188 (by decide) (fun h44 => ?_) (fun h44 => ?_)
                                    · refine rhF.iload_n (pc := 191) dX12_two_191 2 rfl ?_
                                      refine rhF.if_eq (pc := 192) 199 dX12_two_192 (by decide) (fun h45 => ?_) (fun h45 => ?_)
                                      · refine rhF.iconst (pc := 199) (v := 0) dX12_two_199 (by decide) ?_
                                        exact rhF.zret (pc := 200) dX12_two_200 rfl rfl rfl
                                      · refine rhF.iconst (pc := 195) (v := 1) dX12_two_195 (by decide) ?_
                                        refine rhF.goto (pc := 196) 200 dX12_two_196 (by decide) ?_
                                        exact rhF.zret (pc := 200) dX12_two_200 rfl rfl rfl
                                    · refine rhF.iconst (pc := 195) (v := 1) dX12_two_195 (by decide) ?_
                                      refine rhF.goto (pc := 196) 200 dX12_two_196 (by decide) ?_
                                      exact rhF.zret (pc := 200) dX12_two_200 rfl rfl rfl
                                  · skip
                                    refine rhF.ite (fun h46 => ?_) (fun h46 => ?_)
                                    · refine rhF.tsIn (pc := 1) 187 55 dX12_two_1 (by rw [h46]; decide) (by decide) rfl (by decide) ?_
                                      refine rhF.iload_n (pc := 187) dX12_two_187 1 rfl ?_
                                      refine rhF.if_ne (pc := 188) 195 dX12_two_188 (by decide) (fun h47 => ?_) (fun h47 => ?_)
                                      · refine rhF.iload_n (pc := 191) dX12_two_191 2 rfl ?_
                                        refine rhF.if_eq (pc := 192) 199 dX12_two_192 (by decide) (fun h48 => ?_) (fun h48 => ?_)
                                        · refine rhF.iconst (pc := 199) (v := 0) dX12_two_199 (by decide) ?_
                                          exact rhF.zret (pc := 200) dX12_two_200 rfl rfl rfl
                                        · refine rhF.iconst (pc := 195) (v := 1) dX12_two_195 (by decide) ?_
                                          refine rhF.goto (pc := 196) 200 dX12_two_196 (by decide) ?_
                                          exact rhF.zret (pc := 200) dX12_two_200 rfl rfl rfl
                                      · refine rhF.iconst (pc := 195) (v := 1) dX12_two_195 (by decide) ?_
                                        refine rhF.goto (pc := 196) 200 dX12_two_196 (by decide) ?_
                                        exact rhF.zret (pc := 200) dX12_two_200 rfl rfl rfl
                                    · skip
                                      refine rhF.ite (fun h49 => ?_) (fun h49 => ?_)
                                      · refine rhF.tsIn (pc := 1) 187 56 dX12_two_1 (by rw [h49]; decide) (by decide) rfl (by decide) ?_
                                        refine rhF.iload_n (pc := 187) dX12_two_187 1 rfl ?_
                                        refine rhF.if_ne (pc := 188) 195 dX12_two_188 (by decide) (fun h50 => ?_) (fun h50 => ?_)
                                        · refine rhF.iload_n (pc := 191) dX12_two_191 2 rfl ?_
                                          refine rhF.if_eq (pc := 192) 199 dX12_two_192 (by decide) (fun h51 => ?_) (fun h51 => ?_)
                                          · refine rhF.iconst (pc := 199) (v := 0) dX12_two_199 (by decide) ?_
                                            exact rhF.zret (pc := 200) dX12_two_200 rfl rfl rfl
                                          · refine rhF.iconst (pc := 195) (v := 1) dX12_two_195 (by decide) ?_
                                            refine rhF.goto (pc := 196) 200 dX12_two_196 (by decide) ?_
                                            exact rhF.zret (pc := 200) dX12_two_200 rfl rfl rfl
                                        · refine rhF.iconst (pc := 195) (v := 1) dX12_two_195 (by decide) ?_
                                          refine rhF.goto (pc := 196) 200 dX12_two_196 (by decide) ?_
                                          exact rhF.zret (pc := 200) dX12_two_200 rfl rfl rfl
                                      · skip
                                        refine rhF.ite (fun h52 => ?_) (fun h52 => ?_)
                                        · refine rhF.tsIn (pc := 1) 187 57 dX12_two_1 (by rw [h52]; decide) (by decide) rfl (by decide) ?_
                                          refine rhF.iload_n (pc := 187) dX12_two_187 1 rfl ?_
                                          refine rhF.if_ne (pc := 188) 195 dX12_two_188 (by decide) (fun h53 => ?_) (fun h53 => ?_)
                                          · refine rhF.iload_n (pc := 191) dX12_two_191 2 rfl ?_
                                            refine rhF.if_eq (pc := 192) 199 dX12_two_192 (by decide) (fun h54 => ?_) (fun h54 => ?_)
                                            · refine rhF.iconst (pc := 199) (v := 0) dX12_two_199 (by decide) ?_
                                              exact rhF.zret (pc := 200) dX12_two_200 rfl rfl rfl
                                            · refine rhF.iconst (pc := 195) (v := 1) dX12_two_195 (by decide) ?_
                                              refine rhF.goto (pc := 196) 200 dX12_two_196 (by decide) ?_
                                              exact rhF.zret (pc := 200) dX12_two_200 rfl rfl rfl
                                          · refine rhF.iconst (pc := 195) (v := 1) dX12_two_195 (by decide) ?_
                                            refine rhF.goto (pc := 196) 200 dX12_two_196 (by decide) ?_
                                            exact rhF.zret (pc := 200) dX12_two_200 rfl rfl rfl
                                        · skip
                                          refine rhF.ite (fun h55 => ?_) (fun h55 => ?_)
                                          · refine rhF.tsIn (pc := 1) 187 58 dX12_two_1 (by rw [h55]; decide) (by decide) rfl (by decide) ?_
                                            refine rhF.iload_n (pc := 187) dX12_two_187 1 rfl ?_
                                            refine rhF.if_ne (pc := 188) 195 dX12_two_188 (by decide) (fun h56 => ?_) (fun h56 => ?_)
                                            · refine rhF.iload_n (pc := 191) dX12_two_191 2 rfl ?_
                                              refine rhF.if_eq (pc := 192) 199 dX12_two_192 (by decide) (fun h57 => ?_) (fun h57 => ?_)
                                              · refine rhF.iconst (pc := 199) (v := 0) dX12_two_199 (by decide) ?_
                                                exact rhF.zret (pc := 200) dX12_two_200 rfl rfl rfl
                                              · refine rhF.iconst (pc := 195) (v := 1) dX12_two_195 (by decide) ?_
                                                refine rhF.goto (pc := 196) 200 dX12_two_196 (by decide) ?_
                                                exact rhF.zret (pc := 200) dX12_two_200 rfl rfl rfl
                                            · refine rhF.iconst (pc := 195) (v := 1) dX12_two_195 (by decide) ?_
                                              refine rhF.goto (pc := 196) 200 dX12_two_196 (by decide) ?_
                                              exact rhF.zret (pc := 200) dX12_two_200 rfl rfl rfl
                                          · skip
                                            refine rhF.ite (fun h58 => ?_) (fun h58 => ?_)
                                            · refine rhF.tsIn (pc := 1) 187 59 dX12_two_1 (by rw [h58]; decide) (by decide) rfl (by decide) ?_
                                              refine rhF.iload_n (pc := 187) dX12_two_187 1 rfl ?_
                                              refine rhF.if_ne (pc := 188) 195 dX12_two_188 (by decide) (fun h59 => ?_) (fun h59 => ?_)
                                              · refine rhF.iload_n (pc := 191) dX12_two_191 2 rfl ?_
                                                refine rhF.if_eq (pc := 192) 199 dX12_two_192 (by decide) (fun h60 => ?_) (fun h60 => ?_)
                                                · refine rhF.iconst (pc := 199) (v := 0) dX12_two_199 (by decide) ?_
                                                  exact rhF.zret (pc := 200) dX12_two_200 rfl rfl rfl
                                                · refine rhF.iconst (pc := 195) (v := 1) dX12_two_195 (by decide) ?_
                                                  refine rhF.goto (pc := 196) 200 dX12_two_196 (by decide) ?_
                                                  exact rhF.zret (pc := 200) dX12_two_200 rfl rfl rfl
                                              · refine rhF.iconst (pc := 195) (v := 1) dX12_two_195 (by decide) ?_
                                                refine rhF.goto (pc := 196) 200 dX12_two_196 (by decide) ?_
                                                exact rhF.zret (pc := 200) dX12_two_200 rfl rfl rfl
                                            · skip
                                              refine rhF.ite (fun h61 => ?_) (fun h61 => ?_)
                                              · refine rhF.tsIn (pc := 1) 140 60 dX12_two_1 (by rw [h61]; decide) (by decide) rfl (by decide) ?_
                                                refine rhF.iload_n (pc := 140) dX12_two_140 1 rfl ?_
                                                refine rhF.iload_n (pc := 141) dX12_two_141 2 rfl ?_
                                                refine rhF.icmp_ge (pc := 142) 149 dX12_two_142 (by decide) (fun h62 => ?_) (fun h62 => ?_)
                                                · refine rhF.iconst (pc := 145) (v := 1) dX12_two_145 (by decide) ?_
                                                  refine rhF.goto (pc := 146) 150 dX12_two_146 (by decide) ?_
                                                  exact rhF.zret (pc := 150) dX12_two_150 rfl rfl rfl
                                                · refine rhF.iconst (pc := 149) (v := 0) dX12_two_149 (by decide) ?_
                                                  exact rhF.zret (pc := 150) dX12_two_150 rfl rfl rfl
                                              · skip
                                                refine rhF.ite (fun h63 => ?_) (fun h63 => ?_)
                                                · refine rhF.tsIn (pc := 1) 162 61 dX12_two_1 (by rw [h63]; decide) (by decide) rfl (by decide) ?_
                                                  refine rhF.iload_n (pc := 162) dX12_two_162 1 rfl ?_
                                                  refine rhF.iload_n (pc := 163) dX12_two_163 2 rfl ?_
                                                  refine rhF.icmp_ne (pc := 164) 171 dX12_two_164 (by decide) (fun h64 => ?_) (fun h64 => ?_)
                                                  · refine rhF.iconst (pc := 167) (v := 1) dX12_two_167 (by decide) ?_
                                                    refine rhF.goto (pc := 168) 172 dX12_two_168 (by decide) ?_
                                                    exact rhF.zret (pc := 172) dX12_two_172 rfl rfl rfl
                                                  · refine rhF.iconst (pc := 171) (v := 0) dX12_two_171 (by decide) ?_
                                                    exact rhF.zret (pc := 172) dX12_two_172 rfl rfl rfl
                                                · skip
                                                  refine rhF.ite (fun h65 => ?_) (fun h65 => ?_)
                                                  · refine rhF.tsIn (pc := 1) 151 62 dX12_two_1 (by rw [h65]; decide) (by decide) rfl (by decide) ?_
                                                    refine rhF.iload_n (pc := 151) dX12_two_151 1 rfl ?_
                                                    refine rhF.iload_n (pc := 152) dX12_two_152 2 rfl ?_
                                                    refine rhF.icmp_le (pc := 153) 160 dX12_two_153 (by decide) (fun h66 => ?_) (fun h66 => ?_)
                                                    · refine rhF.iconst (pc := 156) (v := 1) dX12_two_156 (by decide) ?_
                                                      refine rhF.goto (pc := 157) 161 dX12_two_157 (by decide) ?_
                                                      exact rhF.zret (pc := 161) dX12_two_161 rfl rfl rfl
                                                    · refine rhF.iconst (pc := 160) (v := 0) dX12_two_160 (by decide) ?_
                                                      exact rhF.zret (pc := 161) dX12_two_161 rfl rfl rfl
                                                  · skip
                                                    have zh1 := rhne h1 (n := 38) (by decide)
                                                    have zh4 := rhne h4 (n := 39) (by decide)
                                                    have zh7 := rhne h7 (n := 40) (by decide)
                                                    have zh10 := rhne h10 (n := 41) (by decide)
                                                    have zh13 := rhne h13 (n := 42) (by decide)
                                                    have zh14 := rhne h14 (n := 43) (by decide)
                                                    have zh15 := rhne h15 (n := 44) (by decide)
                                                    have zh18 := rhne h18 (n := 45) (by decide)
                                                    have zh19 := rhne h19 (n := 46) (by decide)
                                                    have zh22 := rhne h22 (n := 47) (by decide)
                                                    have zh25 := rhne h25 (n := 48) (by decide)
                                                    have zh28 := rhne h28 (n := 49) (by decide)
                                                    have zh31 := rhne h31 (n := 50) (by decide)
                                                    have zh34 := rhne h34 (n := 51) (by decide)
                                                    have zh37 := rhne h37 (n := 52) (by decide)
                                                    have zh40 := rhne h40 (n := 53) (by decide)
                                                    have zh43 := rhne h43 (n := 54) (by decide)
                                                    have zh46 := rhne h46 (n := 55) (by decide)
                                                    have zh49 := rhne h49 (n := 56) (by decide)
                                                    have zh52 := rhne h52 (n := 57) (by decide)
                                                    have zh55 := rhne h55 (n := 58) (by decide)
                                                    have zh58 := rhne h58 (n := 59) (by decide)
                                                    have zh61 := rhne h61 (n := 60) (by decide)
                                                    have zh63 := rhne h63 (n := 61) (by decide)
                                                    have zh65 := rhne h65 (n := 62) (by decide)
                                                    refine rhF.tsOut (pc := 1) 187 dX12_two_1 (by omega) (by decide) ?_
                                                    refine rhF.iload_n (pc := 187) dX12_two_187 1 rfl ?_
                                                    refine rhF.if_ne (pc := 188) 195 dX12_two_188 (by decide) (fun h67 => ?_) (fun h67 => ?_)
                                                    · refine rhF.iload_n (pc := 191) dX12_two_191 2 rfl ?_
                                                      refine rhF.if_eq (pc := 192) 199 dX12_two_192 (by decide) (fun h68 => ?_) (fun h68 => ?_)
                                                      · refine rhF.iconst (pc := 199) (v := 0) dX12_two_199 (by decide) ?_
                                                        exact rhF.zret (pc := 200) dX12_two_200 rfl rfl rfl
                                                      · refine rhF.iconst (pc := 195) (v := 1) dX12_two_195 (by decide) ?_
                                                        refine rhF.goto (pc := 196) 200 dX12_two_196 (by decide) ?_
                                                        exact rhF.zret (pc := 200) dX12_two_200 rfl rfl rfl
                                                    · refine rhF.iconst (pc := 195) (v := 1) dX12_two_195 (by decide) ?_
                                                      refine rhF.goto (pc := 196) 200 dX12_two_196 (by decide) ?_
                                                      exact rhF.zret (pc := 200) dX12_two_200 rfl rfl rfl
theorem c_X12_two (E : rhE) (Γ : rhG) (M : rhM) (v0 : Int32) (v1 : Int32) (v2 : Int32) : ∀ a, f_X12_two Γ M v0 v1 v2 = some a → rhC E 1 yX12_two cX12_two 3 (some .int) [rhI v0, rhI v1, rhI v2] Γ M ((rhe0I Γ M) a) := rhF.met (by decide +kernel) (Nat.le_of_ble_eq_true rfl) (b_X12_two v0 v1 v2)
def f_X12_comes_82 (k149 : rhM → Nat → Int32 → Int32 → Int32 → Int32 → Int32 → Option (Int32 × rhM)) (Γ : rhG) (M : rhM) (v0 : Nat) (v1 : Int32) (v2 : Int32) (v3 : Int32) (v4 : Int32) (v5 : Int32) (s0 : Nat) (s1 : Int32) (s2 : Int32) : Option (Int32 × rhM) :=
  rhck (Γ.2.2.1 s0 = 15) <|
  rhck (0 ≤ (s1).toInt ∧ (s1).toInt < (Γ.2.2.2 s0 : Nat)) <|
  let M19 := rhsi M s0 (s1 : Int32).toNatClampNeg s2
  k149 M19 v0 v1 v2 v3 v4 v5
def f_X12_comes_149 (k27 : rhM → Nat → Int32 → Int32 → Int32 → Int32 → Int32 → Option (Int32 × rhM)) (Γ : rhG) (M : rhM) (v0 : Nat) (v1 : Int32) (v2 : Int32) (v3 : Int32) (v4 : Int32) (v5 : Int32) : Option (Int32 × rhM) :=
  let x20 : Int32 := v5 + 1
  k27 M v0 v1 v2 v3 v4 x20
def f_X12_comes_27 (Γ : rhG) : Nat → rhM → Nat → Int32 → Int32 → Int32 → Int32 → Int32 → Option (Int32 × rhM)
  | 0, _, _, _, _, _, _, _ => none
  | n + 1, M, v0, v1, v2, v3, v4, v5 =>
    rhck (Γ.2.2.1 v0 = 13) <|
    rhck (Γ.2.2.1 (M.2.2 v0 17) = 15) <|
    rhck (0 ≤ (M.1 v0 34).toInt ∧ (M.1 v0 34).toInt < (Γ.2.2.2 (M.2.2 v0 17) : Nat)) <|
    if v5 < (M.1 (M.2.2 v0 17) (M.1 v0 34).toNatClampNeg) then
      (rhck (Γ.2.2.1 (M.2.2 v0 29) = 15) <|
      rhck (0 ≤ (v5).toInt ∧ (v5).toInt < (Γ.2.2.2 (M.2.2 v0 29) : Nat)) <|
      let x12 := M.1 (M.2.2 v0 29) v5.toNatClampNeg
      if x12 = 126 then
        (rhck (Γ.2.2.1 (M.2.2 v0 33) = 15) <|
        rhck (0 ≤ (v4 - 1).toInt ∧ (v4 - 1).toInt < (Γ.2.2.2 (M.2.2 v0 33) : Nat)) <|
        if (M.1 (M.2.2 v0 33) (v4 - 1).toNatClampNeg) = 0 then
          (f_X12_comes_82 (f_X12_comes_149 (f_X12_comes_27 Γ n) Γ) Γ M v0 v1 v2 v3 v4 v5 (M.2.2 v0 33) (v4 - 1) 1)
        else
          f_X12_comes_82 (f_X12_comes_149 (f_X12_comes_27 Γ n) Γ) Γ M v0 v1 v2 v3 v4 v5 (M.2.2 v0 33) (v4 - 1) 0)
      else
        (f_X12_isLetter Γ M x12).bind fun r21 =>
        if r21 = 0 then
          (let x23 : Int32 := v4 + (-1)
          rhck (Γ.2.2.1 (M.2.2 v0 33) = 15) <|
          rhck (0 ≤ (x23 - 1).toInt ∧ (x23 - 1).toInt < (Γ.2.2.2 (M.2.2 v0 33) : Nat)) <|
          rhck (0 ≤ (x23).toInt ∧ (x23).toInt < (Γ.2.2.2 (M.2.2 v0 33) : Nat)) <|
          (f_X12_two Γ M x12 (M.1 (M.2.2 v0 33) (x23 - 1).toNatClampNeg) (M.1 (M.2.2 v0 33) x23.toNatClampNeg)).bind fun r27 =>
          let M28 := rhsi M (M.2.2 v0 33) (x23 - 1 : Int32).toNatClampNeg r27
          f_X12_comes_149 (f_X12_comes_27 Γ n) Γ M28 v0 v1 v2 v3 x23 v5)
        else
          (f_X12_amount Γ M v0 v5 v1 v2 v3).bind fun r29 =>
          rhck (Γ.2.2.1 (M.2.2 v0 33) = 15) <|
          rhck (0 ≤ (v4).toInt ∧ (v4).toInt < (Γ.2.2.2 (M.2.2 v0 33) : Nat)) <|
          let M32 := rhsi M (M.2.2 v0 33) (v4 : Int32).toNatClampNeg r29
          let x33 : Int32 := v4 + 1
          f_X12_comes_149 (f_X12_comes_27 Γ n) Γ M32 v0 v1 v2 v3 x33 v5)
    else
      rhck (Γ.2.2.1 (M.2.2 v0 33) = 15) <|
      rhck (0 ≤ (0 : Int32).toInt ∧ (0 : Int32).toInt < (Γ.2.2.2 (M.2.2 v0 33) : Nat)) <|
      some ((M.1 (M.2.2 v0 33) (0 : Int32).toNatClampNeg, M))
def f_X12_comes (Γ : rhG) (M : rhM) (v0 : Nat) (v1 : Int32) (v2 : Int32) (v3 : Int32) : Option (Int32 × rhM) :=
  rhck (Γ.2.2.1 v0 = 13) <|
  rhck (Γ.2.2.1 (M.2.2 v0 25) = 17) <|
  rhck (0 ≤ (M.1 v0 34).toInt ∧ (M.1 v0 34).toInt < (Γ.2.2.2 (M.2.2 v0 25) : Nat)) <|
  if (M.1 (M.2.2 v0 25) (M.1 v0 34).toNatClampNeg) = 0 then
    (some ((1, M)))
  else
    let x5 := 500 * (M.1 v0 34)
    f_X12_comes_27 Γ rhFU M v0 v1 v2 v3 0 x5
set_option maxHeartbeats 4000000 in
set_option maxRecDepth 100000 in
theorem b_X12_comes_82 {E : rhE} {Γ : rhG} {k149 : rhM → Nat → Int32 → Int32 → Int32 → Int32 → Int32 → Option (Int32 × rhM)} (hk149 : ∀ (M : rhM) (v0 : Nat) (v1 : Int32) (v2 : Int32) (v3 : Int32) (v4 : Int32) (v5 : Int32), rhF E 7 7 yX12_comes cX12_comes (some .int) Γ (rhe1I Γ) (k149 M v0 v1 v2 v3 v4 v5) 149 [(0, rhR v0), (1, rhI v1), (2, rhI v2), (3, rhI v3), (4, rhI v4), (5, rhI v5)] [] Γ M) : ∀ (M : rhM) (v0 : Nat) (v1 : Int32) (v2 : Int32) (v3 : Int32) (v4 : Int32) (v5 : Int32) (s0 : Nat) (s1 : Int32) (s2 : Int32), rhF E 7 7 yX12_comes cX12_comes (some .int) Γ (rhe1I Γ) (f_X12_comes_82 k149 Γ M v0 v1 v2 v3 v4 v5 s0 s1 s2) 82 [(0, rhR v0), (1, rhI v1), (2, rhI v2), (3, rhI v3), (4, rhI v4), (5, rhI v5)] [rhI s2, rhI s1, rhR s0] Γ M := by
  intro M v0 v1 v2 v3 v4 v5 s0 s1 s2
  rw [f_X12_comes_82]
  refine rhF.ck (fun h17 => ?_)
  refine rhF.ck (fun h18 => ?_)
  refine rhF.iast (pc := 82) dX12_comes_82 h17 h18 ?_
  refine rhF.goto (pc := 83) 149 dX12_comes_83 (by decide) ?_
  exact hk149 _ _ _ _ _ _ _
set_option maxHeartbeats 4000000 in
set_option maxRecDepth 100000 in
theorem b_X12_comes_149 {E : rhE} {Γ : rhG} {k27 : rhM → Nat → Int32 → Int32 → Int32 → Int32 → Int32 → Option (Int32 × rhM)} (hk27 : ∀ (M : rhM) (v0 : Nat) (v1 : Int32) (v2 : Int32) (v3 : Int32) (v4 : Int32) (v5 : Int32), rhF E 7 7 yX12_comes cX12_comes (some .int) Γ (rhe1I Γ) (k27 M v0 v1 v2 v3 v4 v5) 27 [(0, rhR v0), (1, rhI v1), (2, rhI v2), (3, rhI v3), (4, rhI v4), (5, rhI v5)] [] Γ M) : ∀ (M : rhM) (v0 : Nat) (v1 : Int32) (v2 : Int32) (v3 : Int32) (v4 : Int32) (v5 : Int32), rhF E 7 7 yX12_comes cX12_comes (some .int) Γ (rhe1I Γ) (f_X12_comes_149 k27 Γ M v0 v1 v2 v3 v4 v5) 149 [(0, rhR v0), (1, rhI v1), (2, rhI v2), (3, rhI v3), (4, rhI v4), (5, rhI v5)] [] Γ M := by
  intro M v0 v1 v2 v3 v4 v5
  rw [f_X12_comes_149]
  refine rhF.iinc (pc := 149) (L' := [(5, rhI _), (0, rhR _), (1, rhI _), (2, rhI _), (3, rhI _), (4, rhI _)]) dX12_comes_149 5 rfl rfl (by decide) rfl ?_
  refine rhF.goto (pc := 152) 27 dX12_comes_152 (by decide) ?_
  refine rhF.sub [1, 2, 3, 4, 5, 0] rfl ?_
  exact hk27 _ _ _ _ _ _ _
set_option maxHeartbeats 4000000 in
set_option maxRecDepth 100000 in
theorem b_X12_comes_27 {E : rhE} {Γ : rhG} : ∀ (n : Nat) (M : rhM) (v0 : Nat) (v1 : Int32) (v2 : Int32) (v3 : Int32) (v4 : Int32) (v5 : Int32), rhF E 7 7 yX12_comes cX12_comes (some .int) Γ (rhe1I Γ) (f_X12_comes_27 Γ n M v0 v1 v2 v3 v4 v5) 27 [(0, rhR v0), (1, rhI v1), (2, rhI v2), (3, rhI v3), (4, rhI v4), (5, rhI v5)] [] Γ M := by
  intro n
  induction n with
  | zero => intro M v0 v1 v2 v3 v4 v5; rw [f_X12_comes_27]; exact rhF.nope
  | succ n ih =>
    intro M v0 v1 v2 v3 v4 v5
    rw [f_X12_comes_27]
    refine rhF.iload (pc := 27) dX12_comes_27 5 rfl ?_
    refine rhF.aload_n (pc := 29) dX12_comes_29 0 rfl ?_
    refine rhF.ck (fun h6 => ?_)
    refine rhF.get (pc := 30) (rhR _) dX12_comes_30 fl_X12_39 h6 rfl ?_
    refine rhF.aload_n (pc := 33) dX12_comes_33 0 rfl ?_
    refine rhF.get (pc := 34) (rhI _) dX12_comes_34 fl_X12_327 h6 rfl ?_
    refine rhF.ck (fun h7 => ?_)
    refine rhF.ck (fun h8 => ?_)
    refine rhF.iald (pc := 37) dX12_comes_37 h7 h8 ?_
    refine rhF.icmp_ge (pc := 38) 155 dX12_comes_38 (by decide) (fun h9 => ?_) (fun h9 => ?_)
    · refine rhF.aload_n (pc := 41) dX12_comes_41 0 rfl ?_
      refine rhF.get (pc := 42) (rhR _) dX12_comes_42 fl_X12_77 h6 rfl ?_
      refine rhF.iload (pc := 45) dX12_comes_45 5 rfl ?_
      refine rhF.ck (fun h10 => ?_)
      refine rhF.ck (fun h11 => ?_)
      refine rhF.iald (pc := 47) dX12_comes_47 h10 h11 ?_
      refine rhF.istore (pc := 48) (L' := [(6, rhI _), (0, rhR _), (1, rhI _), (2, rhI _), (3, rhI _), (4, rhI _), (5, rhI _)]) dX12_comes_48 (by decide) rfl ?_
      refine rhF.iload (pc := 50) dX12_comes_50 0 rfl ?_
      refine rhF.bipush (pc := 52) (v := 126) dX12_comes_52 (by decide) ?_
      refine rhF.icmp_ne (pc := 54) 86 dX12_comes_54 (by decide) (fun h13 => ?_) (fun h13 => ?_)
      · refine rhF.aload_n (pc := 57) dX12_comes_57 1 rfl ?_
        refine rhF.get (pc := 58) (rhR _) dX12_comes_58 fl_X12_89 h6 rfl ?_
        refine rhF.iload (pc := 61) dX12_comes_61 5 rfl ?_
        refine rhF.iconst (pc := 63) (v := 1) dX12_comes_63 (by decide) ?_
        refine rhF.isub (pc := 64) dX12_comes_64 ?_
        refine rhF.aload_n (pc := 65) dX12_comes_65 1 rfl ?_
        refine rhF.get (pc := 66) (rhR _) dX12_comes_66 fl_X12_89 h6 rfl ?_
        refine rhF.iload (pc := 69) dX12_comes_69 5 rfl ?_
        refine rhF.iconst (pc := 71) (v := 1) dX12_comes_71 (by decide) ?_
        refine rhF.isub (pc := 72) dX12_comes_72 ?_
        refine rhF.ck (fun h14 => ?_)
        refine rhF.ck (fun h15 => ?_)
        refine rhF.iald (pc := 73) dX12_comes_73 h14 h15 ?_
        refine rhF.if_ne (pc := 74) 81 dX12_comes_74 (by decide) (fun h16 => ?_) (fun h16 => ?_)
        · refine rhF.iconst (pc := 77) (v := 1) dX12_comes_77 (by decide) ?_
          refine rhF.goto (pc := 78) 82 dX12_comes_78 (by decide) ?_
          refine rhF.sub [1, 2, 3, 4, 5, 6] rfl ?_
          exact (b_X12_comes_82 (b_X12_comes_149 ih)) _ _ _ _ _ _ _ _ _ _
        · refine rhF.iconst (pc := 81) (v := 0) dX12_comes_81 (by decide) ?_
          refine rhF.sub [1, 2, 3, 4, 5, 6] rfl ?_
          exact (b_X12_comes_82 (b_X12_comes_149 ih)) _ _ _ _ _ _ _ _ _ _
      · refine rhF.iload (pc := 86) dX12_comes_86 0 rfl ?_
        refine rhF.callS (pc := 88) (embc := rhe0I _ _) [rhI _] dX12_comes_88 ml_X12_269 ms_X12_isLetter (c_X12_isLetter _ _ _ _) (by decide) (by decide) rfl (Nat.le_of_ble_eq_true rfl) (fun r21 _ => ?_)
        refine rhF.if_eq (pc := 91) 116 dX12_comes_91 (by decide) (fun h22 => ?_) (fun h22 => ?_)
        · refine rhF.iinc (pc := 116) (L' := [(4, rhI _), (6, rhI _), (0, rhR _), (1, rhI _), (2, rhI _), (3, rhI _), (5, rhI _)]) dX12_comes_116 5 rfl rfl (by decide) rfl ?_
          refine rhF.aload_n (pc := 119) dX12_comes_119 2 rfl ?_
          refine rhF.get (pc := 120) (rhR _) dX12_comes_120 fl_X12_89 h6 rfl ?_
          refine rhF.iload (pc := 123) dX12_comes_123 0 rfl ?_
          refine rhF.iconst (pc := 125) (v := 1) dX12_comes_125 (by decide) ?_
          refine rhF.isub (pc := 126) dX12_comes_126 ?_
          refine rhF.iload (pc := 127) dX12_comes_127 1 rfl ?_
          refine rhF.aload_n (pc := 129) dX12_comes_129 2 rfl ?_
          refine rhF.get (pc := 130) (rhR _) dX12_comes_130 fl_X12_89 h6 rfl ?_
          refine rhF.iload (pc := 133) dX12_comes_133 0 rfl ?_
          refine rhF.iconst (pc := 135) (v := 1) dX12_comes_135 (by decide) ?_
          refine rhF.isub (pc := 136) dX12_comes_136 ?_
          refine rhF.ck (fun h24 => ?_)
          refine rhF.ck (fun h25 => ?_)
          refine rhF.iald (pc := 137) dX12_comes_137 h24 h25 ?_
          refine rhF.aload_n (pc := 138) dX12_comes_138 2 rfl ?_
          refine rhF.get (pc := 139) (rhR _) dX12_comes_139 fl_X12_89 h6 rfl ?_
          refine rhF.iload (pc := 142) dX12_comes_142 0 rfl ?_
          refine rhF.ck (fun h26 => ?_)
          refine rhF.iald (pc := 144) dX12_comes_144 h24 h26 ?_
          refine rhF.callS (pc := 145) (embc := rhe0I _ _) [rhI _, rhI _, rhI _] dX12_comes_145 ml_X12_442 ms_X12_two (c_X12_two _ _ _ _ _ _) (by decide) (by decide) rfl (Nat.le_of_ble_eq_true rfl) (fun r27 _ => ?_)
          refine rhF.iast (pc := 148) dX12_comes_148 h24 h25 ?_
          refine rhF.sub [2, 3, 4, 5, 0, 6] rfl ?_
          exact (b_X12_comes_149 ih) _ _ _ _ _ _ _
        · refine rhF.aload_n (pc := 94) dX12_comes_94 1 rfl ?_
          refine rhF.get (pc := 95) (rhR _) dX12_comes_95 fl_X12_89 h6 rfl ?_
          refine rhF.iload (pc := 98) dX12_comes_98 5 rfl ?_
          refine rhF.aload_n (pc := 100) dX12_comes_100 1 rfl ?_
          refine rhF.iload (pc := 101) dX12_comes_101 6 rfl ?_
          refine rhF.iload_n (pc := 103) dX12_comes_103 2 rfl ?_
          refine rhF.iload_n (pc := 104) dX12_comes_104 3 rfl ?_
          refine rhF.iload_n (pc := 105) dX12_comes_105 4 rfl ?_
          refine rhF.callV (pc := 106) (ci := 12) (embc := rhe0I _ _) [rhI _, rhI _, rhI _, rhI _] dX12_comes_106 ml_X12_438 mv_X12_amount ⟨_, rfl, rfl⟩ h6 (c_X12_amount _ _ _ _ _ _ _ _) (by decide) (by decide) rfl (Nat.le_of_ble_eq_true rfl) (fun r29 _ => ?_)
          refine rhF.ck (fun h30 => ?_)
          refine rhF.ck (fun h31 => ?_)
          refine rhF.iast (pc := 109) dX12_comes_109 h30 h31 ?_
          refine rhF.iinc (pc := 110) (L' := [(4, rhI _), (6, rhI _), (0, rhR _), (1, rhI _), (2, rhI _), (3, rhI _), (5, rhI _)]) dX12_comes_110 5 rfl rfl (by decide) rfl ?_
          refine rhF.goto (pc := 113) 149 dX12_comes_113 (by decide) ?_
          refine rhF.sub [2, 3, 4, 5, 0, 6] rfl ?_
          exact (b_X12_comes_149 ih) _ _ _ _ _ _ _
    · refine rhF.aload_n (pc := 155) dX12_comes_155 0 rfl ?_
      refine rhF.get (pc := 156) (rhR _) dX12_comes_156 fl_X12_89 h6 rfl ?_
      refine rhF.iconst (pc := 159) (v := 0) dX12_comes_159 (by decide) ?_
      refine rhF.ck (fun h34 => ?_)
      refine rhF.ck (fun h35 => ?_)
      refine rhF.iald (pc := 160) dX12_comes_160 h34 h35 ?_
      exact rhF.zret (pc := 161) dX12_comes_161 rfl rfl rfl
set_option maxHeartbeats 4000000 in
set_option maxRecDepth 100000 in
theorem b_X12_comes {E : rhE} {Γ : rhG} : ∀ (M : rhM) (v0 : Nat) (v1 : Int32) (v2 : Int32) (v3 : Int32), rhF E 7 7 yX12_comes cX12_comes (some .int) Γ (rhe1I Γ) (f_X12_comes Γ M v0 v1 v2 v3) 0 [(0, rhR v0), (1, rhI v1), (2, rhI v2), (3, rhI v3)] [] Γ M := by
  intro M v0 v1 v2 v3
  rw [f_X12_comes]
  refine rhF.aload_n (pc := 0) dX12_comes_0 0 rfl ?_
  refine rhF.ck (fun h1 => ?_)
  refine rhF.get (pc := 1) (rhR _) dX12_comes_1 fl_X12_64 h1 rfl ?_
  refine rhF.aload_n (pc := 4) dX12_comes_4 0 rfl ?_
  refine rhF.get (pc := 5) (rhI _) dX12_comes_5 fl_X12_327 h1 rfl ?_
  refine rhF.ck (fun h2 => ?_)
  refine rhF.ck (fun h3 => ?_)
  refine rhF.zald (pc := 8) dX12_comes_8 h2 h3 ?_
  refine rhF.if_ne (pc := 9) 14 dX12_comes_9 (by decide) (fun h4 => ?_) (fun h4 => ?_)
  · refine rhF.iconst (pc := 12) (v := 1) dX12_comes_12 (by decide) ?_
    exact rhF.zret (pc := 13) dX12_comes_13 rfl rfl rfl
  · refine rhF.iconst (pc := 14) (v := 0) dX12_comes_14 (by decide) ?_
    refine rhF.istore (pc := 15) (L' := [(4, rhI _), (0, rhR _), (1, rhI _), (2, rhI _), (3, rhI _)]) dX12_comes_15 (by decide) rfl ?_
    refine rhF.sipush (pc := 17) (v := 500) dX12_comes_17 (by decide) ?_
    refine rhF.aload_n (pc := 20) dX12_comes_20 1 rfl ?_
    refine rhF.get (pc := 21) (rhI _) dX12_comes_21 fl_X12_327 h1 rfl ?_
    refine rhF.imul (pc := 24) dX12_comes_24 ?_
    refine rhF.istore (pc := 25) (L' := [(5, rhI _), (4, rhI _), (0, rhR _), (1, rhI _), (2, rhI _), (3, rhI _)]) dX12_comes_25 (by decide) rfl ?_
    refine rhF.sub [2, 3, 4, 5, 1, 0] rfl ?_
    exact (b_X12_comes_27 rhFU) _ _ _ _ _ _ _
theorem c_X12_comes (E : rhE) (Γ : rhG) (M : rhM) (v0 : Nat) (v1 : Int32) (v2 : Int32) (v3 : Int32) : ∀ a, f_X12_comes Γ M v0 v1 v2 v3 = some a → rhC E 7 yX12_comes cX12_comes 7 (some .int) [rhR v0, rhI v1, rhI v2, rhI v3] Γ M ((rhe1I Γ) a) := rhF.met (by decide +kernel) (Nat.le_of_ble_eq_true rfl) (b_X12_comes M v0 v1 v2 v3)
def f_X12_layNow_2 (k26 : rhM → Nat → Option (rhM)) (Γ : rhG) : Nat → rhM → Nat → Int32 → Option (rhM)
  | 0, _, _, _ => none
  | n + 1, M, v0, v1 =>
    if v1 < 8 then
      (rhck (Γ.2.2.1 v0 = 13) <|
      rhck (Γ.2.2.1 (M.2.2 v0 42) = 15) <|
      rhck (0 ≤ (v1).toInt ∧ (v1).toInt < (Γ.2.2.2 (M.2.2 v0 42) : Nat)) <|
      rhck (Γ.2.2.1 (M.2.2 v0 39) = 15) <|
      rhck (0 ≤ (v1).toInt ∧ (v1).toInt < (Γ.2.2.2 (M.2.2 v0 39) : Nat)) <|
      let M7 := rhsi M (M.2.2 v0 39) (v1 : Int32).toNatClampNeg (M.1 (M.2.2 v0 42) v1.toNatClampNeg)
      let x8 : Int32 := v1 + 1
      f_X12_layNow_2 k26 Γ n M7 v0 x8)
    else
      k26 M v0
def f_X12_layNow_28 (Γ : rhG) : Nat → rhM → Nat → Int32 → Option (rhM)
  | 0, _, _, _ => none
  | n + 1, M, v0, v1 =>
    if v1 < 5 then
      (rhck (Γ.2.2.1 v0 = 13) <|
      rhck (Γ.2.2.1 (M.2.2 v0 43) = 15) <|
      rhck (0 ≤ (v1).toInt ∧ (v1).toInt < (Γ.2.2.2 (M.2.2 v0 43) : Nat)) <|
      rhck (Γ.2.2.1 (M.2.2 v0 40) = 15) <|
      rhck (0 ≤ (v1).toInt ∧ (v1).toInt < (Γ.2.2.2 (M.2.2 v0 40) : Nat)) <|
      let M15 := rhsi M (M.2.2 v0 40) (v1 : Int32).toNatClampNeg (M.1 (M.2.2 v0 43) v1.toNatClampNeg)
      let x16 : Int32 := v1 + 1
      f_X12_layNow_28 Γ n M15 v0 x16)
    else
      some M
def f_X12_layNow_26 (Γ : rhG) (M : rhM) (v0 : Nat) : Option (rhM) :=
  f_X12_layNow_28 Γ rhFU M v0 0
def f_X12_layNow (Γ : rhG) (M : rhM) (v0 : Nat) : Option (rhM) :=
  f_X12_layNow_2 (f_X12_layNow_26 Γ) Γ rhFU M v0 0
set_option maxHeartbeats 4000000 in
set_option maxRecDepth 100000 in
theorem b_X12_layNow_2 {E : rhE} {Γ : rhG} {k26 : rhM → Nat → Option (rhM)} (hk26 : ∀ (M : rhM) (v0 : Nat), rhF E 1 2 yX12_layNow cX12_layNow none Γ (rhe1U Γ) (k26 M v0) 26 [(0, rhR v0)] [] Γ M) : ∀ (n : Nat) (M : rhM) (v0 : Nat) (v1 : Int32), rhF E 1 2 yX12_layNow cX12_layNow none Γ (rhe1U Γ) (f_X12_layNow_2 k26 Γ n M v0 v1) 2 [(0, rhR v0), (1, rhI v1)] [] Γ M := by
  intro n
  induction n with
  | zero => intro M v0 v1; rw [f_X12_layNow_2]; exact rhF.nope
  | succ n ih =>
    intro M v0 v1
    rw [f_X12_layNow_2]
    refine rhF.iload_n (pc := 2) dX12_layNow_2 1 rfl ?_
    refine rhF.bipush (pc := 3) (v := 8) dX12_layNow_3 (by decide) ?_
    refine rhF.icmp_ge (pc := 5) 26 dX12_layNow_5 (by decide) (fun h1 => ?_) (fun h1 => ?_)
    · refine rhF.aload_n (pc := 8) dX12_layNow_8 0 rfl ?_
      refine rhF.ck (fun h2 => ?_)
      refine rhF.get (pc := 9) (rhR _) dX12_layNow_9 fl_X12_92 h2 rfl ?_
      refine rhF.iload_n (pc := 12) dX12_layNow_12 1 rfl ?_
      refine rhF.aload_n (pc := 13) dX12_layNow_13 0 rfl ?_
      refine rhF.get (pc := 14) (rhR _) dX12_layNow_14 fl_X12_101 h2 rfl ?_
      refine rhF.iload_n (pc := 17) dX12_layNow_17 1 rfl ?_
      refine rhF.ck (fun h3 => ?_)
      refine rhF.ck (fun h4 => ?_)
      refine rhF.iald (pc := 18) dX12_layNow_18 h3 h4 ?_
      refine rhF.ck (fun h5 => ?_)
      refine rhF.ck (fun h6 => ?_)
      refine rhF.iast (pc := 19) dX12_layNow_19 h5 h6 ?_
      refine rhF.iinc (pc := 20) (L' := [(1, rhI _), (0, rhR _)]) dX12_layNow_20 1 rfl rfl (by decide) rfl ?_
      refine rhF.goto (pc := 23) 2 dX12_layNow_23 (by decide) ?_
      refine rhF.sub [1, 0] rfl ?_
      exact ih _ _ _
    · refine rhF.sub [0] rfl ?_
      exact hk26 _ _
set_option maxHeartbeats 4000000 in
set_option maxRecDepth 100000 in
theorem b_X12_layNow_28 {E : rhE} {Γ : rhG} : ∀ (n : Nat) (M : rhM) (v0 : Nat) (v1 : Int32), rhF E 1 2 yX12_layNow cX12_layNow none Γ (rhe1U Γ) (f_X12_layNow_28 Γ n M v0 v1) 28 [(0, rhR v0), (1, rhI v1)] [] Γ M := by
  intro n
  induction n with
  | zero => intro M v0 v1; rw [f_X12_layNow_28]; exact rhF.nope
  | succ n ih =>
    intro M v0 v1
    rw [f_X12_layNow_28]
    refine rhF.iload_n (pc := 28) dX12_layNow_28 1 rfl ?_
    refine rhF.iconst (pc := 29) (v := 5) dX12_layNow_29 (by decide) ?_
    refine rhF.icmp_ge (pc := 30) 51 dX12_layNow_30 (by decide) (fun h9 => ?_) (fun h9 => ?_)
    · refine rhF.aload_n (pc := 33) dX12_layNow_33 0 rfl ?_
      refine rhF.ck (fun h10 => ?_)
      refine rhF.get (pc := 34) (rhR _) dX12_layNow_34 fl_X12_95 h10 rfl ?_
      refine rhF.iload_n (pc := 37) dX12_layNow_37 1 rfl ?_
      refine rhF.aload_n (pc := 38) dX12_layNow_38 0 rfl ?_
      refine rhF.get (pc := 39) (rhR _) dX12_layNow_39 fl_X12_104 h10 rfl ?_
      refine rhF.iload_n (pc := 42) dX12_layNow_42 1 rfl ?_
      refine rhF.ck (fun h11 => ?_)
      refine rhF.ck (fun h12 => ?_)
      refine rhF.iald (pc := 43) dX12_layNow_43 h11 h12 ?_
      refine rhF.ck (fun h13 => ?_)
      refine rhF.ck (fun h14 => ?_)
      refine rhF.iast (pc := 44) dX12_layNow_44 h13 h14 ?_
      refine rhF.iinc (pc := 45) (L' := [(1, rhI _), (0, rhR _)]) dX12_layNow_45 1 rfl rfl (by decide) rfl ?_
      refine rhF.goto (pc := 48) 28 dX12_layNow_48 (by decide) ?_
      refine rhF.sub [1, 0] rfl ?_
      exact ih _ _ _
    · exact rhF.vret (pc := 51) dX12_layNow_51 rfl rfl
set_option maxHeartbeats 4000000 in
set_option maxRecDepth 100000 in
theorem b_X12_layNow_26 {E : rhE} {Γ : rhG} : ∀ (M : rhM) (v0 : Nat), rhF E 1 2 yX12_layNow cX12_layNow none Γ (rhe1U Γ) (f_X12_layNow_26 Γ M v0) 26 [(0, rhR v0)] [] Γ M := by
  intro M v0
  rw [f_X12_layNow_26]
  refine rhF.iconst (pc := 26) (v := 0) dX12_layNow_26 (by decide) ?_
  refine rhF.istore_n (pc := 27) (L' := [(1, rhI _), (0, rhR _)]) dX12_layNow_27 (by decide) rfl ?_
  refine rhF.sub [1, 0] rfl ?_
  exact (b_X12_layNow_28 rhFU) _ _ _
set_option maxHeartbeats 4000000 in
set_option maxRecDepth 100000 in
theorem b_X12_layNow {E : rhE} {Γ : rhG} : ∀ (M : rhM) (v0 : Nat), rhF E 1 2 yX12_layNow cX12_layNow none Γ (rhe1U Γ) (f_X12_layNow Γ M v0) 0 [(0, rhR v0)] [] Γ M := by
  intro M v0
  rw [f_X12_layNow]
  refine rhF.iconst (pc := 0) (v := 0) dX12_layNow_0 (by decide) ?_
  refine rhF.istore_n (pc := 1) (L' := [(1, rhI _), (0, rhR _)]) dX12_layNow_1 (by decide) rfl ?_
  refine rhF.sub [1, 0] rfl ?_
  exact (b_X12_layNow_2 (b_X12_layNow_26) rhFU) _ _ _
theorem c_X12_layNow (E : rhE) (Γ : rhG) (M : rhM) (v0 : Nat) : ∀ a, f_X12_layNow Γ M v0 = some a → rhC E 1 yX12_layNow cX12_layNow 2 none [rhR v0] Γ M ((rhe1U Γ) a) := rhF.met (by decide +kernel) (Nat.le_of_ble_eq_true rfl) (b_X12_layNow M v0)
def f_X12_asked (Γ : rhG) (M : rhM) (v0 : Nat) (v1 : Int32) (v2 : Int32) (v3 : Int32) : Option (Int32 × rhM) :=
  rhck (Γ.2.2.1 v0 = 13) <|
  (f_X12_layNow Γ M v0).bind fun r2 =>
  (f_X12_canBe Γ r2 v0 v1 v2 v3).bind fun r3 =>
  if r3 = 0 then
    (some (((-1000000), r2)))
  else
    (f_X12_comes Γ r2 v0 v1 v2 v3).bind fun r5 =>
    some ((r5.1, r5.2))
set_option maxHeartbeats 4000000 in
set_option maxRecDepth 100000 in
theorem b_X12_asked {E : rhE} {Γ : rhG} : ∀ (M : rhM) (v0 : Nat) (v1 : Int32) (v2 : Int32) (v3 : Int32), rhF E 8 4 yX12_asked cX12_asked (some .int) Γ (rhe1I Γ) (f_X12_asked Γ M v0 v1 v2 v3) 0 [(0, rhR v0), (1, rhI v1), (2, rhI v2), (3, rhI v3)] [] Γ M := by
  intro M v0 v1 v2 v3
  rw [f_X12_asked]
  refine rhF.aload_n (pc := 0) dX12_asked_0 0 rfl ?_
  refine rhF.ck (fun h1 => ?_)
  refine rhF.callV (pc := 1) (ci := 12) (embc := rhe1U _) [] dX12_asked_1 ml_X12_467 mv_X12_layNow ⟨_, rfl, rfl⟩ h1 (c_X12_layNow _ _ _ _) (by decide) (by decide) rfl (Nat.le_of_ble_eq_true rfl) (fun r2 _ => ?_)
  refine rhF.aload_n (pc := 4) dX12_asked_4 0 rfl ?_
  refine rhF.iload_n (pc := 5) dX12_asked_5 1 rfl ?_
  refine rhF.iload_n (pc := 6) dX12_asked_6 2 rfl ?_
  refine rhF.iload_n (pc := 7) dX12_asked_7 3 rfl ?_
  refine rhF.callV (pc := 8) (ci := 12) (embc := rhe0I _ _) [rhI _, rhI _, rhI _] dX12_asked_8 ml_X12_446 mv_X12_canBe ⟨_, rfl, rfl⟩ h1 (c_X12_canBe _ _ _ _ _ _ _) (by decide) (by decide) rfl (Nat.le_of_ble_eq_true rfl) (fun r3 _ => ?_)
  refine rhF.if_eq (pc := 11) 24 dX12_asked_11 (by decide) (fun h4 => ?_) (fun h4 => ?_)
  · refine rhF.ldcw (pc := 24) dX12_asked_24 k_X12_470 ?_
    exact rhF.zret (pc := 27) dX12_asked_27 rfl rfl rfl
  · refine rhF.aload_n (pc := 14) dX12_asked_14 0 rfl ?_
    refine rhF.iload_n (pc := 15) dX12_asked_15 1 rfl ?_
    refine rhF.iload_n (pc := 16) dX12_asked_16 2 rfl ?_
    refine rhF.iload_n (pc := 17) dX12_asked_17 3 rfl ?_
    refine rhF.callV (pc := 18) (ci := 12) (embc := rhe1I _) [rhI _, rhI _, rhI _] dX12_asked_18 ml_X12_449 mv_X12_comes ⟨_, rfl, rfl⟩ h1 (c_X12_comes _ _ _ _ _ _ _) (by decide) (by decide) rfl (Nat.le_of_ble_eq_true rfl) (fun r5 _ => ?_)
    refine rhF.goto (pc := 21) 27 dX12_asked_21 (by decide) ?_
    exact rhF.zret (pc := 27) dX12_asked_27 rfl rfl rfl
theorem c_X12_asked (E : rhE) (Γ : rhG) (M : rhM) (v0 : Nat) (v1 : Int32) (v2 : Int32) (v3 : Int32) : ∀ a, f_X12_asked Γ M v0 v1 v2 v3 = some a → rhC E 8 yX12_asked cX12_asked 4 (some .int) [rhR v0, rhI v1, rhI v2, rhI v3] Γ M ((rhe1I Γ) a) := rhF.met (by decide +kernel) (Nat.le_of_ble_eq_true rfl) (b_X12_asked M v0 v1 v2 v3)
def f_X12_back_42 (k71 : rhM → Nat → Int32 → Option (Int32 × rhM)) (Γ : rhG) : Nat → rhM → Nat → Int32 → Int32 → Option (Int32 × rhM)
  | 0, _, _, _, _ => none
  | n + 1, M, v0, v1, v2 =>
    if v2 < 8 then
      (rhck (Γ.2.2.1 v0 = 13) <|
      rhck (Γ.2.2.1 (M.2.2 v0 86) = 15) <|
      rhck (0 ≤ ((8 * v1) + v2).toInt ∧ ((8 * v1) + v2).toInt < (Γ.2.2.2 (M.2.2 v0 86) : Nat)) <|
      rhck (Γ.2.2.1 (M.2.2 v0 42) = 15) <|
      rhck (0 ≤ (v2).toInt ∧ (v2).toInt < (Γ.2.2.2 (M.2.2 v0 42) : Nat)) <|
      let M17 := rhsi M (M.2.2 v0 42) (v2 : Int32).toNatClampNeg (M.1 (M.2.2 v0 86) ((8 * v1) + v2).toNatClampNeg)
      let x18 : Int32 := v2 + 1
      f_X12_back_42 k71 Γ n M17 v0 v1 x18)
    else
      k71 M v0 v1
def f_X12_back_73 (k101 : rhM → Nat → Int32 → Option (Int32 × rhM)) (Γ : rhG) : Nat → rhM → Nat → Int32 → Int32 → Option (Int32 × rhM)
  | 0, _, _, _, _ => none
  | n + 1, M, v0, v1, v2 =>
    if v2 < 5 then
      (rhck (Γ.2.2.1 v0 = 13) <|
      rhck (Γ.2.2.1 (M.2.2 v0 87) = 15) <|
      rhck (0 ≤ ((6 * v1) + v2).toInt ∧ ((6 * v1) + v2).toInt < (Γ.2.2.2 (M.2.2 v0 87) : Nat)) <|
      rhck (Γ.2.2.1 (M.2.2 v0 43) = 15) <|
      rhck (0 ≤ (v2).toInt ∧ (v2).toInt < (Γ.2.2.2 (M.2.2 v0 43) : Nat)) <|
      let M25 := rhsi M (M.2.2 v0 43) (v2 : Int32).toNatClampNeg (M.1 (M.2.2 v0 87) ((6 * v1) + v2).toNatClampNeg)
      let x26 : Int32 := v2 + 1
      f_X12_back_73 k101 Γ n M25 v0 v1 x26)
    else
      k101 M v0 v1
def f_X12_back_103 (Γ : rhG) : Nat → rhM → Nat → Int32 → Int32 → Option (Int32 × rhM)
  | 0, _, _, _, _ => none
  | n + 1, M, v0, v1, v2 =>
    rhck (Γ.2.2.1 v0 = 13) <|
    if v2 < (M.1 v0 48) then
      (rhck (Γ.2.2.1 (M.2.2 v0 88) = 15) <|
      rhck (0 ≤ ((300 * v1) + v2).toInt ∧ ((300 * v1) + v2).toInt < (Γ.2.2.2 (M.2.2 v0 88) : Nat)) <|
      rhck (Γ.2.2.1 (M.2.2 v0 46) = 15) <|
      rhck (0 ≤ (v2).toInt ∧ (v2).toInt < (Γ.2.2.2 (M.2.2 v0 46) : Nat)) <|
      let M33 := rhsi M (M.2.2 v0 46) (v2 : Int32).toNatClampNeg (M.1 (M.2.2 v0 88) ((300 * v1) + v2).toNatClampNeg)
      rhck (Γ.2.2.1 (M.2.2 v0 89) = 15) <|
      rhck (0 ≤ ((300 * v1) + v2).toInt ∧ ((300 * v1) + v2).toInt < (Γ.2.2.2 (M.2.2 v0 89) : Nat)) <|
      rhck (Γ.2.2.1 (M.2.2 v0 47) = 15) <|
      rhck (0 ≤ (v2).toInt ∧ (v2).toInt < (Γ.2.2.2 (M.2.2 v0 47) : Nat)) <|
      let M38 := rhsi M33 (M.2.2 v0 47) (v2 : Int32).toNatClampNeg (M33.1 (M.2.2 v0 89) ((300 * v1) + v2).toNatClampNeg)
      let x39 : Int32 := v2 + 1
      f_X12_back_103 Γ n M38 v0 v1 x39)
    else
      some ((M.1 v0 48, M))
def f_X12_back_101 (Γ : rhG) (M : rhM) (v0 : Nat) (v1 : Int32) : Option (Int32 × rhM) :=
  f_X12_back_103 Γ rhFU M v0 v1 0
def f_X12_back_71 (Γ : rhG) (M : rhM) (v0 : Nat) (v1 : Int32) : Option (Int32 × rhM) :=
  f_X12_back_73 (f_X12_back_101 Γ) Γ rhFU M v0 v1 0
def f_X12_back (Γ : rhG) (M : rhM) (v0 : Nat) (v1 : Int32) : Option (Int32 × rhM) :=
  (f_X12_isIn Γ M v1 (0 : Int32) (2 : Int32)).bind fun r1 =>
  if r1 = 0 then
    (some (((-1), M)))
  else
    rhck (Γ.2.2.1 v0 = 13) <|
    rhck (Γ.2.2.1 (M.2.2 v0 84) = 15) <|
    rhck (0 ≤ (v1).toInt ∧ (v1).toInt < (Γ.2.2.2 (M.2.2 v0 84) : Nat)) <|
    if (M.1 (M.2.2 v0 84) v1.toNatClampNeg) < 0 then
      (some (((-1), M)))
    else
      let M7 := rhsi M v0 48 (M.1 (M.2.2 v0 84) v1.toNatClampNeg)
      rhck (Γ.2.2.1 (M.2.2 v0 85) = 15) <|
      rhck (0 ≤ (v1).toInt ∧ (v1).toInt < (Γ.2.2.2 (M.2.2 v0 85) : Nat)) <|
      let M10 := rhsi M7 v0 49 (M7.1 (M.2.2 v0 85) v1.toNatClampNeg)
      f_X12_back_42 (f_X12_back_71 Γ) Γ rhFU M10 v0 v1 0
set_option maxHeartbeats 4000000 in
set_option maxRecDepth 100000 in
theorem b_X12_back_42 {E : rhE} {Γ : rhG} {k71 : rhM → Nat → Int32 → Option (Int32 × rhM)} (hk71 : ∀ (M : rhM) (v0 : Nat) (v1 : Int32), rhF E 5 3 yX12_back cX12_back (some .int) Γ (rhe1I Γ) (k71 M v0 v1) 71 [(0, rhR v0), (1, rhI v1)] [] Γ M) : ∀ (n : Nat) (M : rhM) (v0 : Nat) (v1 : Int32) (v2 : Int32), rhF E 5 3 yX12_back cX12_back (some .int) Γ (rhe1I Γ) (f_X12_back_42 k71 Γ n M v0 v1 v2) 42 [(0, rhR v0), (1, rhI v1), (2, rhI v2)] [] Γ M := by
  intro n
  induction n with
  | zero => intro M v0 v1 v2; rw [f_X12_back_42]; exact rhF.nope
  | succ n ih =>
    intro M v0 v1 v2
    rw [f_X12_back_42]
    refine rhF.iload_n (pc := 42) dX12_back_42 2 rfl ?_
    refine rhF.bipush (pc := 43) (v := 8) dX12_back_43 (by decide) ?_
    refine rhF.icmp_ge (pc := 45) 71 dX12_back_45 (by decide) (fun h11 => ?_) (fun h11 => ?_)
    · refine rhF.aload_n (pc := 48) dX12_back_48 0 rfl ?_
      refine rhF.ck (fun h12 => ?_)
      refine rhF.get (pc := 49) (rhR _) dX12_back_49 fl_X12_101 h12 rfl ?_
      refine rhF.iload_n (pc := 52) dX12_back_52 2 rfl ?_
      refine rhF.aload_n (pc := 53) dX12_back_53 0 rfl ?_
      refine rhF.get (pc := 54) (rhR _) dX12_back_54 fl_X12_196 h12 rfl ?_
      refine rhF.bipush (pc := 57) (v := 8) dX12_back_57 (by decide) ?_
      refine rhF.iload_n (pc := 59) dX12_back_59 1 rfl ?_
      refine rhF.imul (pc := 60) dX12_back_60 ?_
      refine rhF.iload_n (pc := 61) dX12_back_61 2 rfl ?_
      refine rhF.iadd (pc := 62) dX12_back_62 ?_
      refine rhF.ck (fun h13 => ?_)
      refine rhF.ck (fun h14 => ?_)
      refine rhF.iald (pc := 63) dX12_back_63 h13 h14 ?_
      refine rhF.ck (fun h15 => ?_)
      refine rhF.ck (fun h16 => ?_)
      refine rhF.iast (pc := 64) dX12_back_64 h15 h16 ?_
      refine rhF.iinc (pc := 65) (L' := [(2, rhI _), (0, rhR _), (1, rhI _)]) dX12_back_65 2 rfl rfl (by decide) rfl ?_
      refine rhF.goto (pc := 68) 42 dX12_back_68 (by decide) ?_
      refine rhF.sub [1, 2, 0] rfl ?_
      exact ih _ _ _ _
    · refine rhF.sub [0, 1] rfl ?_
      exact hk71 _ _ _
set_option maxHeartbeats 4000000 in
set_option maxRecDepth 100000 in
theorem b_X12_back_73 {E : rhE} {Γ : rhG} {k101 : rhM → Nat → Int32 → Option (Int32 × rhM)} (hk101 : ∀ (M : rhM) (v0 : Nat) (v1 : Int32), rhF E 5 3 yX12_back cX12_back (some .int) Γ (rhe1I Γ) (k101 M v0 v1) 101 [(0, rhR v0), (1, rhI v1)] [] Γ M) : ∀ (n : Nat) (M : rhM) (v0 : Nat) (v1 : Int32) (v2 : Int32), rhF E 5 3 yX12_back cX12_back (some .int) Γ (rhe1I Γ) (f_X12_back_73 k101 Γ n M v0 v1 v2) 73 [(0, rhR v0), (1, rhI v1), (2, rhI v2)] [] Γ M := by
  intro n
  induction n with
  | zero => intro M v0 v1 v2; rw [f_X12_back_73]; exact rhF.nope
  | succ n ih =>
    intro M v0 v1 v2
    rw [f_X12_back_73]
    refine rhF.iload_n (pc := 73) dX12_back_73 2 rfl ?_
    refine rhF.iconst (pc := 74) (v := 5) dX12_back_74 (by decide) ?_
    refine rhF.icmp_ge (pc := 75) 101 dX12_back_75 (by decide) (fun h19 => ?_) (fun h19 => ?_)
    · refine rhF.aload_n (pc := 78) dX12_back_78 0 rfl ?_
      refine rhF.ck (fun h20 => ?_)
      refine rhF.get (pc := 79) (rhR _) dX12_back_79 fl_X12_104 h20 rfl ?_
      refine rhF.iload_n (pc := 82) dX12_back_82 2 rfl ?_
      refine rhF.aload_n (pc := 83) dX12_back_83 0 rfl ?_
      refine rhF.get (pc := 84) (rhR _) dX12_back_84 fl_X12_199 h20 rfl ?_
      refine rhF.bipush (pc := 87) (v := 6) dX12_back_87 (by decide) ?_
      refine rhF.iload_n (pc := 89) dX12_back_89 1 rfl ?_
      refine rhF.imul (pc := 90) dX12_back_90 ?_
      refine rhF.iload_n (pc := 91) dX12_back_91 2 rfl ?_
      refine rhF.iadd (pc := 92) dX12_back_92 ?_
      refine rhF.ck (fun h21 => ?_)
      refine rhF.ck (fun h22 => ?_)
      refine rhF.iald (pc := 93) dX12_back_93 h21 h22 ?_
      refine rhF.ck (fun h23 => ?_)
      refine rhF.ck (fun h24 => ?_)
      refine rhF.iast (pc := 94) dX12_back_94 h23 h24 ?_
      refine rhF.iinc (pc := 95) (L' := [(2, rhI _), (0, rhR _), (1, rhI _)]) dX12_back_95 2 rfl rfl (by decide) rfl ?_
      refine rhF.goto (pc := 98) 73 dX12_back_98 (by decide) ?_
      refine rhF.sub [1, 2, 0] rfl ?_
      exact ih _ _ _ _
    · refine rhF.sub [0, 1] rfl ?_
      exact hk101 _ _ _
set_option maxHeartbeats 4000000 in
set_option maxRecDepth 100000 in
theorem b_X12_back_103 {E : rhE} {Γ : rhG} : ∀ (n : Nat) (M : rhM) (v0 : Nat) (v1 : Int32) (v2 : Int32), rhF E 5 3 yX12_back cX12_back (some .int) Γ (rhe1I Γ) (f_X12_back_103 Γ n M v0 v1 v2) 103 [(0, rhR v0), (1, rhI v1), (2, rhI v2)] [] Γ M := by
  intro n
  induction n with
  | zero => intro M v0 v1 v2; rw [f_X12_back_103]; exact rhF.nope
  | succ n ih =>
    intro M v0 v1 v2
    rw [f_X12_back_103]
    refine rhF.iload_n (pc := 103) dX12_back_103 2 rfl ?_
    refine rhF.aload_n (pc := 104) dX12_back_104 0 rfl ?_
    refine rhF.ck (fun h27 => ?_)
    refine rhF.get (pc := 105) (rhI _) dX12_back_105 fl_X12_458 h27 rfl ?_
    refine rhF.icmp_ge (pc := 108) 153 dX12_back_108 (by decide) (fun h28 => ?_) (fun h28 => ?_)
    · refine rhF.aload_n (pc := 111) dX12_back_111 0 rfl ?_
      refine rhF.get (pc := 112) (rhR _) dX12_back_112 fl_X12_110 h27 rfl ?_
      refine rhF.iload_n (pc := 115) dX12_back_115 2 rfl ?_
      refine rhF.aload_n (pc := 116) dX12_back_116 0 rfl ?_
      refine rhF.get (pc := 117) (rhR _) dX12_back_117 fl_X12_202 h27 rfl ?_
      refine rhF.sipush (pc := 120) (v := 300) dX12_back_120 (by decide) ?_
      refine rhF.iload_n (pc := 123) dX12_back_123 1 rfl ?_
      refine rhF.imul (pc := 124) dX12_back_124 ?_
      refine rhF.iload_n (pc := 125) dX12_back_125 2 rfl ?_
      refine rhF.iadd (pc := 126) dX12_back_126 ?_
      refine rhF.ck (fun h29 => ?_)
      refine rhF.ck (fun h30 => ?_)
      refine rhF.iald (pc := 127) dX12_back_127 h29 h30 ?_
      refine rhF.ck (fun h31 => ?_)
      refine rhF.ck (fun h32 => ?_)
      refine rhF.iast (pc := 128) dX12_back_128 h31 h32 ?_
      refine rhF.aload_n (pc := 129) dX12_back_129 0 rfl ?_
      refine rhF.get (pc := 130) (rhR _) dX12_back_130 fl_X12_113 h27 rfl ?_
      refine rhF.iload_n (pc := 133) dX12_back_133 2 rfl ?_
      refine rhF.aload_n (pc := 134) dX12_back_134 0 rfl ?_
      refine rhF.get (pc := 135) (rhR _) dX12_back_135 fl_X12_205 h27 rfl ?_
      refine rhF.sipush (pc := 138) (v := 300) dX12_back_138 (by decide) ?_
      refine rhF.iload_n (pc := 141) dX12_back_141 1 rfl ?_
      refine rhF.imul (pc := 142) dX12_back_142 ?_
      refine rhF.iload_n (pc := 143) dX12_back_143 2 rfl ?_
      refine rhF.iadd (pc := 144) dX12_back_144 ?_
      refine rhF.ck (fun h34 => ?_)
      refine rhF.ck (fun h35 => ?_)
      refine rhF.iald (pc := 145) dX12_back_145 h34 h35 ?_
      refine rhF.ck (fun h36 => ?_)
      refine rhF.ck (fun h37 => ?_)
      refine rhF.iast (pc := 146) dX12_back_146 h36 h37 ?_
      refine rhF.iinc (pc := 147) (L' := [(2, rhI _), (0, rhR _), (1, rhI _)]) dX12_back_147 2 rfl rfl (by decide) rfl ?_
      refine rhF.goto (pc := 150) 103 dX12_back_150 (by decide) ?_
      refine rhF.sub [1, 2, 0] rfl ?_
      exact ih _ _ _ _
    · refine rhF.aload_n (pc := 153) dX12_back_153 0 rfl ?_
      refine rhF.get (pc := 154) (rhI _) dX12_back_154 fl_X12_458 h27 rfl ?_
      exact rhF.zret (pc := 157) dX12_back_157 rfl rfl rfl
set_option maxHeartbeats 4000000 in
set_option maxRecDepth 100000 in
theorem b_X12_back_101 {E : rhE} {Γ : rhG} : ∀ (M : rhM) (v0 : Nat) (v1 : Int32), rhF E 5 3 yX12_back cX12_back (some .int) Γ (rhe1I Γ) (f_X12_back_101 Γ M v0 v1) 101 [(0, rhR v0), (1, rhI v1)] [] Γ M := by
  intro M v0 v1
  rw [f_X12_back_101]
  refine rhF.iconst (pc := 101) (v := 0) dX12_back_101 (by decide) ?_
  refine rhF.istore_n (pc := 102) (L' := [(2, rhI _), (0, rhR _), (1, rhI _)]) dX12_back_102 (by decide) rfl ?_
  refine rhF.sub [1, 2, 0] rfl ?_
  exact (b_X12_back_103 rhFU) _ _ _ _
set_option maxHeartbeats 4000000 in
set_option maxRecDepth 100000 in
theorem b_X12_back_71 {E : rhE} {Γ : rhG} : ∀ (M : rhM) (v0 : Nat) (v1 : Int32), rhF E 5 3 yX12_back cX12_back (some .int) Γ (rhe1I Γ) (f_X12_back_71 Γ M v0 v1) 71 [(0, rhR v0), (1, rhI v1)] [] Γ M := by
  intro M v0 v1
  rw [f_X12_back_71]
  refine rhF.iconst (pc := 71) (v := 0) dX12_back_71 (by decide) ?_
  refine rhF.istore_n (pc := 72) (L' := [(2, rhI _), (0, rhR _), (1, rhI _)]) dX12_back_72 (by decide) rfl ?_
  refine rhF.sub [1, 2, 0] rfl ?_
  exact (b_X12_back_73 (b_X12_back_101) rhFU) _ _ _ _
set_option maxHeartbeats 4000000 in
set_option maxRecDepth 100000 in
theorem b_X12_back {E : rhE} {Γ : rhG} : ∀ (M : rhM) (v0 : Nat) (v1 : Int32), rhF E 5 3 yX12_back cX12_back (some .int) Γ (rhe1I Γ) (f_X12_back Γ M v0 v1) 0 [(0, rhR v0), (1, rhI v1)] [] Γ M := by
  intro M v0 v1
  rw [f_X12_back]
  refine rhF.iload_n (pc := 0) dX12_back_0 1 rfl ?_
  refine rhF.iconst (pc := 1) (v := 0) dX12_back_1 (by decide) ?_
  refine rhF.iconst (pc := 2) (v := 2) dX12_back_2 (by decide) ?_
  refine rhF.callS (pc := 3) (embc := rhe0I _ _) [rhI _, rhI _, rhI _] dX12_back_3 ml_X12_415 ms_X12_isIn (c_X12_isIn _ _ _ _ _ _) (by decide) (by decide) rfl (Nat.le_of_ble_eq_true rfl) (fun r1 _ => ?_)
  refine rhF.if_eq (pc := 6) 18 dX12_back_6 (by decide) (fun h2 => ?_) (fun h2 => ?_)
  · refine rhF.iconst (pc := 18) (v := (-1)) dX12_back_18 (by decide) ?_
    exact rhF.zret (pc := 19) dX12_back_19 rfl rfl rfl
  · refine rhF.aload_n (pc := 9) dX12_back_9 0 rfl ?_
    refine rhF.ck (fun h3 => ?_)
    refine rhF.get (pc := 10) (rhR _) dX12_back_10 fl_X12_190 h3 rfl ?_
    refine rhF.iload_n (pc := 13) dX12_back_13 1 rfl ?_
    refine rhF.ck (fun h4 => ?_)
    refine rhF.ck (fun h5 => ?_)
    refine rhF.iald (pc := 14) dX12_back_14 h4 h5 ?_
    refine rhF.if_ge (pc := 15) 20 dX12_back_15 (by decide) (fun h6 => ?_) (fun h6 => ?_)
    · refine rhF.iconst (pc := 18) (v := (-1)) dX12_back_18 (by decide) ?_
      exact rhF.zret (pc := 19) dX12_back_19 rfl rfl rfl
    · refine rhF.aload_n (pc := 20) dX12_back_20 0 rfl ?_
      refine rhF.aload_n (pc := 21) dX12_back_21 0 rfl ?_
      refine rhF.get (pc := 22) (rhR _) dX12_back_22 fl_X12_190 h3 rfl ?_
      refine rhF.iload_n (pc := 25) dX12_back_25 1 rfl ?_
      refine rhF.iald (pc := 26) dX12_back_26 h4 h5 ?_
      refine rhF.puti (pc := 27) dX12_back_27 fl_X12_458 h3 (fun q hq => by cases hq; exact Or.inl rfl) ⟨rfl, rfl⟩ (fun _ => rfl) ?_
      refine rhF.aload_n (pc := 30) dX12_back_30 0 rfl ?_
      refine rhF.aload_n (pc := 31) dX12_back_31 0 rfl ?_
      refine rhF.get (pc := 32) (rhR _) dX12_back_32 fl_X12_193 h3 rfl ?_
      refine rhF.iload_n (pc := 35) dX12_back_35 1 rfl ?_
      refine rhF.ck (fun h8 => ?_)
      refine rhF.ck (fun h9 => ?_)
      refine rhF.iald (pc := 36) dX12_back_36 h8 h9 ?_
      refine rhF.puti (pc := 37) dX12_back_37 fl_X12_461 h3 (fun q hq => by cases hq; exact Or.inl rfl) ⟨rfl, rfl⟩ (fun _ => rfl) ?_
      refine rhF.iconst (pc := 40) (v := 0) dX12_back_40 (by decide) ?_
      refine rhF.istore_n (pc := 41) (L' := [(2, rhI _), (0, rhR _), (1, rhI _)]) dX12_back_41 (by decide) rfl ?_
      refine rhF.sub [1, 2, 0] rfl ?_
      exact (b_X12_back_42 (b_X12_back_71) rhFU) _ _ _ _
theorem c_X12_back (E : rhE) (Γ : rhG) (M : rhM) (v0 : Nat) (v1 : Int32) : ∀ a, f_X12_back Γ M v0 v1 = some a → rhC E 5 yX12_back cX12_back 3 (some .int) [rhR v0, rhI v1] Γ M ((rhe1I Γ) a) := rhF.met (by decide +kernel) (Nat.le_of_ble_eq_true rfl) (b_X12_back M v0 v1)
def f_X12_keepNow_2 (k26 : rhM → Nat → Option (rhM)) (Γ : rhG) : Nat → rhM → Nat → Int32 → Option (rhM)
  | 0, _, _, _ => none
  | n + 1, M, v0, v1 =>
    if v1 < 8 then
      (rhck (Γ.2.2.1 v0 = 13) <|
      rhck (Γ.2.2.1 (M.2.2 v0 39) = 15) <|
      rhck (0 ≤ (v1).toInt ∧ (v1).toInt < (Γ.2.2.2 (M.2.2 v0 39) : Nat)) <|
      rhck (Γ.2.2.1 (M.2.2 v0 42) = 15) <|
      rhck (0 ≤ (v1).toInt ∧ (v1).toInt < (Γ.2.2.2 (M.2.2 v0 42) : Nat)) <|
      let M7 := rhsi M (M.2.2 v0 42) (v1 : Int32).toNatClampNeg (M.1 (M.2.2 v0 39) v1.toNatClampNeg)
      let x8 : Int32 := v1 + 1
      f_X12_keepNow_2 k26 Γ n M7 v0 x8)
    else
      k26 M v0
def f_X12_keepNow_28 (Γ : rhG) : Nat → rhM → Nat → Int32 → Option (rhM)
  | 0, _, _, _ => none
  | n + 1, M, v0, v1 =>
    if v1 < 5 then
      (rhck (Γ.2.2.1 v0 = 13) <|
      rhck (Γ.2.2.1 (M.2.2 v0 40) = 15) <|
      rhck (0 ≤ (v1).toInt ∧ (v1).toInt < (Γ.2.2.2 (M.2.2 v0 40) : Nat)) <|
      rhck (Γ.2.2.1 (M.2.2 v0 43) = 15) <|
      rhck (0 ≤ (v1).toInt ∧ (v1).toInt < (Γ.2.2.2 (M.2.2 v0 43) : Nat)) <|
      let M15 := rhsi M (M.2.2 v0 43) (v1 : Int32).toNatClampNeg (M.1 (M.2.2 v0 40) v1.toNatClampNeg)
      let x16 : Int32 := v1 + 1
      f_X12_keepNow_28 Γ n M15 v0 x16)
    else
      some M
def f_X12_keepNow_26 (Γ : rhG) (M : rhM) (v0 : Nat) : Option (rhM) :=
  f_X12_keepNow_28 Γ rhFU M v0 0
def f_X12_keepNow (Γ : rhG) (M : rhM) (v0 : Nat) : Option (rhM) :=
  f_X12_keepNow_2 (f_X12_keepNow_26 Γ) Γ rhFU M v0 0
set_option maxHeartbeats 4000000 in
set_option maxRecDepth 100000 in
theorem b_X12_keepNow_2 {E : rhE} {Γ : rhG} {k26 : rhM → Nat → Option (rhM)} (hk26 : ∀ (M : rhM) (v0 : Nat), rhF E 1 2 yX12_keepNow cX12_keepNow none Γ (rhe1U Γ) (k26 M v0) 26 [(0, rhR v0)] [] Γ M) : ∀ (n : Nat) (M : rhM) (v0 : Nat) (v1 : Int32), rhF E 1 2 yX12_keepNow cX12_keepNow none Γ (rhe1U Γ) (f_X12_keepNow_2 k26 Γ n M v0 v1) 2 [(0, rhR v0), (1, rhI v1)] [] Γ M := by
  intro n
  induction n with
  | zero => intro M v0 v1; rw [f_X12_keepNow_2]; exact rhF.nope
  | succ n ih =>
    intro M v0 v1
    rw [f_X12_keepNow_2]
    refine rhF.iload_n (pc := 2) dX12_keepNow_2 1 rfl ?_
    refine rhF.bipush (pc := 3) (v := 8) dX12_keepNow_3 (by decide) ?_
    refine rhF.icmp_ge (pc := 5) 26 dX12_keepNow_5 (by decide) (fun h1 => ?_) (fun h1 => ?_)
    · refine rhF.aload_n (pc := 8) dX12_keepNow_8 0 rfl ?_
      refine rhF.ck (fun h2 => ?_)
      refine rhF.get (pc := 9) (rhR _) dX12_keepNow_9 fl_X12_101 h2 rfl ?_
      refine rhF.iload_n (pc := 12) dX12_keepNow_12 1 rfl ?_
      refine rhF.aload_n (pc := 13) dX12_keepNow_13 0 rfl ?_
      refine rhF.get (pc := 14) (rhR _) dX12_keepNow_14 fl_X12_92 h2 rfl ?_
      refine rhF.iload_n (pc := 17) dX12_keepNow_17 1 rfl ?_
      refine rhF.ck (fun h3 => ?_)
      refine rhF.ck (fun h4 => ?_)
      refine rhF.iald (pc := 18) dX12_keepNow_18 h3 h4 ?_
      refine rhF.ck (fun h5 => ?_)
      refine rhF.ck (fun h6 => ?_)
      refine rhF.iast (pc := 19) dX12_keepNow_19 h5 h6 ?_
      refine rhF.iinc (pc := 20) (L' := [(1, rhI _), (0, rhR _)]) dX12_keepNow_20 1 rfl rfl (by decide) rfl ?_
      refine rhF.goto (pc := 23) 2 dX12_keepNow_23 (by decide) ?_
      refine rhF.sub [1, 0] rfl ?_
      exact ih _ _ _
    · refine rhF.sub [0] rfl ?_
      exact hk26 _ _
set_option maxHeartbeats 4000000 in
set_option maxRecDepth 100000 in
theorem b_X12_keepNow_28 {E : rhE} {Γ : rhG} : ∀ (n : Nat) (M : rhM) (v0 : Nat) (v1 : Int32), rhF E 1 2 yX12_keepNow cX12_keepNow none Γ (rhe1U Γ) (f_X12_keepNow_28 Γ n M v0 v1) 28 [(0, rhR v0), (1, rhI v1)] [] Γ M := by
  intro n
  induction n with
  | zero => intro M v0 v1; rw [f_X12_keepNow_28]; exact rhF.nope
  | succ n ih =>
    intro M v0 v1
    rw [f_X12_keepNow_28]
    refine rhF.iload_n (pc := 28) dX12_keepNow_28 1 rfl ?_
    refine rhF.iconst (pc := 29) (v := 5) dX12_keepNow_29 (by decide) ?_
    refine rhF.icmp_ge (pc := 30) 51 dX12_keepNow_30 (by decide) (fun h9 => ?_) (fun h9 => ?_)
    · refine rhF.aload_n (pc := 33) dX12_keepNow_33 0 rfl ?_
      refine rhF.ck (fun h10 => ?_)
      refine rhF.get (pc := 34) (rhR _) dX12_keepNow_34 fl_X12_104 h10 rfl ?_
      refine rhF.iload_n (pc := 37) dX12_keepNow_37 1 rfl ?_
      refine rhF.aload_n (pc := 38) dX12_keepNow_38 0 rfl ?_
      refine rhF.get (pc := 39) (rhR _) dX12_keepNow_39 fl_X12_95 h10 rfl ?_
      refine rhF.iload_n (pc := 42) dX12_keepNow_42 1 rfl ?_
      refine rhF.ck (fun h11 => ?_)
      refine rhF.ck (fun h12 => ?_)
      refine rhF.iald (pc := 43) dX12_keepNow_43 h11 h12 ?_
      refine rhF.ck (fun h13 => ?_)
      refine rhF.ck (fun h14 => ?_)
      refine rhF.iast (pc := 44) dX12_keepNow_44 h13 h14 ?_
      refine rhF.iinc (pc := 45) (L' := [(1, rhI _), (0, rhR _)]) dX12_keepNow_45 1 rfl rfl (by decide) rfl ?_
      refine rhF.goto (pc := 48) 28 dX12_keepNow_48 (by decide) ?_
      refine rhF.sub [1, 0] rfl ?_
      exact ih _ _ _
    · exact rhF.vret (pc := 51) dX12_keepNow_51 rfl rfl
set_option maxHeartbeats 4000000 in
set_option maxRecDepth 100000 in
theorem b_X12_keepNow_26 {E : rhE} {Γ : rhG} : ∀ (M : rhM) (v0 : Nat), rhF E 1 2 yX12_keepNow cX12_keepNow none Γ (rhe1U Γ) (f_X12_keepNow_26 Γ M v0) 26 [(0, rhR v0)] [] Γ M := by
  intro M v0
  rw [f_X12_keepNow_26]
  refine rhF.iconst (pc := 26) (v := 0) dX12_keepNow_26 (by decide) ?_
  refine rhF.istore_n (pc := 27) (L' := [(1, rhI _), (0, rhR _)]) dX12_keepNow_27 (by decide) rfl ?_
  refine rhF.sub [1, 0] rfl ?_
  exact (b_X12_keepNow_28 rhFU) _ _ _
set_option maxHeartbeats 4000000 in
set_option maxRecDepth 100000 in
theorem b_X12_keepNow {E : rhE} {Γ : rhG} : ∀ (M : rhM) (v0 : Nat), rhF E 1 2 yX12_keepNow cX12_keepNow none Γ (rhe1U Γ) (f_X12_keepNow Γ M v0) 0 [(0, rhR v0)] [] Γ M := by
  intro M v0
  rw [f_X12_keepNow]
  refine rhF.iconst (pc := 0) (v := 0) dX12_keepNow_0 (by decide) ?_
  refine rhF.istore_n (pc := 1) (L' := [(1, rhI _), (0, rhR _)]) dX12_keepNow_1 (by decide) rfl ?_
  refine rhF.sub [1, 0] rfl ?_
  exact (b_X12_keepNow_2 (b_X12_keepNow_26) rhFU) _ _ _
theorem c_X12_keepNow (E : rhE) (Γ : rhG) (M : rhM) (v0 : Nat) : ∀ a, f_X12_keepNow Γ M v0 = some a → rhC E 1 yX12_keepNow cX12_keepNow 2 none [rhR v0] Γ M ((rhe1U Γ) a) := rhF.met (by decide +kernel) (Nat.le_of_ble_eq_true rfl) (b_X12_keepNow M v0)
