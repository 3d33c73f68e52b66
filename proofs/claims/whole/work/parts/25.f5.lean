def f_X12_isKept_72 (k77 : Int64 → Int32 → Option (Int32)) (Γ : rhG) (M : rhM) (v0 : Int64) : Option (Int32) :=
  k77 v0 1
def f_X12_isKept_77 (Γ : rhG) (M : rhM) (v0 : Int64) (s0 : Int32) : Option (Int32) :=
  if s0 = 0 then
    (if v0 = ((7102839 : Int64)) then
      (some 1)
    else
      if v0 = ((1835101817 : Int64)) then
        (some 1)
      else
        if v0 = ((1718775661 : Int64)) then
          (some 1)
        else
          if v0 = ((29807 : Int64)) then
            (some 1)
          else
            if v0 = ((1919905645 : Int64)) then
              (some 1)
            else
              if v0 = ((499850634611 : Int64)) then
                (some 1)
              else
                if v0 = ((6385252 : Int64)) then
                  (some 1)
                else
                  if v0 = ((28530 : Int64)) then
                    (some 1)
                  else
                    if v0 = ((7237492 : Int64)) then
                      (some 1)
                    else
                      some 0)
  else
    some 1
def f_X12_isKept (Γ : rhG) (M : rhM) (v0 : Int64) : Option (Int32) :=
  if v0 = ((1918986604 : Int64)) then
    (f_X12_isKept_72 (f_X12_isKept_77 Γ M) Γ M v0)
  else
    if v0 = ((119182899770472 : Int64)) then
      (f_X12_isKept_72 (f_X12_isKept_77 Γ M) Γ M v0)
    else
      if v0 = ((448546567013 : Int64)) then
        (f_X12_isKept_72 (f_X12_isKept_77 Γ M) Γ M v0)
      else
        if v0 = ((131277443786868 : Int64)) then
          (f_X12_isKept_72 (f_X12_isKept_77 Γ M) Γ M v0)
        else
          if v0 = ((28526 : Int64)) then
            (f_X12_isKept_72 (f_X12_isKept_77 Γ M) Γ M v0)
          else
            if v0 = ((108187867505765 : Int64)) then
              (f_X12_isKept_72 (f_X12_isKept_77 Γ M) Γ M v0)
            else
              if v0 = ((512970880104 : Int64)) then
                (f_X12_isKept_72 (f_X12_isKept_77 Γ M) Γ M v0)
              else
                if v0 = ((1852138347 : Int64)) then
                  (f_X12_isKept_72 (f_X12_isKept_77 Γ M) Γ M v0)
                else
                  if v0 = ((431415719795 : Int64)) then
                    (f_X12_isKept_72 (f_X12_isKept_77 Γ M) Γ M v0)
                  else
                    f_X12_isKept_77 Γ M v0 0
set_option maxHeartbeats 4000000 in
set_option maxRecDepth 100000 in
theorem b_X12_isKept_72 {E : rhE} {Γ : rhG} {M : rhM} {k77 : Int64 → Int32 → Option (Int32)} (hk77 : ∀ (v0 : Int64) (s0 : Int32), rhF E 1 3 yX12_isKept cX12_isKept (some .boolean) Γ (rhe0I Γ M) (k77 v0 s0) 77 [(0, rhJ v0)] [rhI s0] Γ M) : ∀ (v0 : Int64), rhF E 1 3 yX12_isKept cX12_isKept (some .boolean) Γ (rhe0I Γ M) (f_X12_isKept_72 k77 Γ M v0) 72 [(0, rhJ v0)] [] Γ M := by
  intro v0
  rw [f_X12_isKept_72]
  refine rhF.iconst (pc := 72) (v := 1) dX12_isKept_72 (by decide) ?_
  refine rhF.goto (pc := 73) 77 dX12_isKept_73 (by decide) ?_
  exact hk77 _ _
set_option maxHeartbeats 4000000 in
set_option maxRecDepth 100000 in
theorem b_X12_isKept_77 {E : rhE} {Γ : rhG} {M : rhM} : ∀ (v0 : Int64) (s0 : Int32), rhF E 1 3 yX12_isKept cX12_isKept (some .boolean) Γ (rhe0I Γ M) (f_X12_isKept_77 Γ M v0 s0) 77 [(0, rhJ v0)] [rhI s0] Γ M := by
  intro v0 s0
  rw [f_X12_isKept_77]
  refine rhF.istore_n (pc := 77) (L' := [(2, rhI _), (0, rhJ _)]) dX12_isKept_77 (by decide) rfl ?_
  refine rhF.iload_n (pc := 78) dX12_isKept_78 0 rfl ?_
  refine rhF.if_ne (pc := 79) 154 dX12_isKept_79 (by decide) (fun h2 => ?_) (fun h2 => ?_)
  · refine rhF.lload_n (pc := 82) dX12_isKept_82 1 rfl ?_
    refine rhF.ldc2 (pc := 83) dX12_isKept_83 k_X12_238 ?_
    refine rhF.lceq (pc := 86) 154 dX12_isKept_86 dX12_isKept_87 (by decide) (fun h3 => ?_) (fun h3 => ?_)
    · refine rhF.iconst (pc := 154) (v := 1) dX12_isKept_154 (by decide) ?_
      refine rhF.goto (pc := 155) 159 dX12_isKept_155 (by decide) ?_
      exact rhF.zret (pc := 159) dX12_isKept_159 rfl rfl rfl
    · refine rhF.lload_n (pc := 90) dX12_isKept_90 1 rfl ?_
      refine rhF.ldc2 (pc := 91) dX12_isKept_91 k_X12_240 ?_
      refine rhF.lceq (pc := 94) 154 dX12_isKept_94 dX12_isKept_95 (by decide) (fun h4 => ?_) (fun h4 => ?_)
      · refine rhF.iconst (pc := 154) (v := 1) dX12_isKept_154 (by decide) ?_
        refine rhF.goto (pc := 155) 159 dX12_isKept_155 (by decide) ?_
        exact rhF.zret (pc := 159) dX12_isKept_159 rfl rfl rfl
      · refine rhF.lload_n (pc := 98) dX12_isKept_98 1 rfl ?_
        refine rhF.ldc2 (pc := 99) dX12_isKept_99 k_X12_242 ?_
        refine rhF.lceq (pc := 102) 154 dX12_isKept_102 dX12_isKept_103 (by decide) (fun h5 => ?_) (fun h5 => ?_)
        · refine rhF.iconst (pc := 154) (v := 1) dX12_isKept_154 (by decide) ?_
          refine rhF.goto (pc := 155) 159 dX12_isKept_155 (by decide) ?_
          exact rhF.zret (pc := 159) dX12_isKept_159 rfl rfl rfl
        · refine rhF.lload_n (pc := 106) dX12_isKept_106 1 rfl ?_
          refine rhF.ldc2 (pc := 107) dX12_isKept_107 k_X12_244 ?_
          refine rhF.lceq (pc := 110) 154 dX12_isKept_110 dX12_isKept_111 (by decide) (fun h6 => ?_) (fun h6 => ?_)
          · refine rhF.iconst (pc := 154) (v := 1) dX12_isKept_154 (by decide) ?_
            refine rhF.goto (pc := 155) 159 dX12_isKept_155 (by decide) ?_
            exact rhF.zret (pc := 159) dX12_isKept_159 rfl rfl rfl
          · refine rhF.lload_n (pc := 114) dX12_isKept_114 1 rfl ?_
            refine rhF.ldc2 (pc := 115) dX12_isKept_115 k_X12_246 ?_
            refine rhF.lceq (pc := 118) 154 dX12_isKept_118 dX12_isKept_119 (by decide) (fun h7 => ?_) (fun h7 => ?_)
            · refine rhF.iconst (pc := 154) (v := 1) dX12_isKept_154 (by decide) ?_
              refine rhF.goto (pc := 155) 159 dX12_isKept_155 (by decide) ?_
              exact rhF.zret (pc := 159) dX12_isKept_159 rfl rfl rfl
            · refine rhF.lload_n (pc := 122) dX12_isKept_122 1 rfl ?_
              refine rhF.ldc2 (pc := 123) dX12_isKept_123 k_X12_248 ?_
              refine rhF.lceq (pc := 126) 154 dX12_isKept_126 dX12_isKept_127 (by decide) (fun h8 => ?_) (fun h8 => ?_)
              · refine rhF.iconst (pc := 154) (v := 1) dX12_isKept_154 (by decide) ?_
                refine rhF.goto (pc := 155) 159 dX12_isKept_155 (by decide) ?_
                exact rhF.zret (pc := 159) dX12_isKept_159 rfl rfl rfl
              · refine rhF.lload_n (pc := 130) dX12_isKept_130 1 rfl ?_
                refine rhF.ldc2 (pc := 131) dX12_isKept_131 k_X12_250 ?_
                refine rhF.lceq (pc := 134) 154 dX12_isKept_134 dX12_isKept_135 (by decide) (fun h9 => ?_) (fun h9 => ?_)
                · refine rhF.iconst (pc := 154) (v := 1) dX12_isKept_154 (by decide) ?_
                  refine rhF.goto (pc := 155) 159 dX12_isKept_155 (by decide) ?_
                  exact rhF.zret (pc := 159) dX12_isKept_159 rfl rfl rfl
                · refine rhF.lload_n (pc := 138) dX12_isKept_138 1 rfl ?_
                  refine rhF.ldc2 (pc := 139) dX12_isKept_139 k_X12_252 ?_
                  refine rhF.lceq (pc := 142) 154 dX12_isKept_142 dX12_isKept_143 (by decide) (fun h10 => ?_) (fun h10 => ?_)
                  · refine rhF.iconst (pc := 154) (v := 1) dX12_isKept_154 (by decide) ?_
                    refine rhF.goto (pc := 155) 159 dX12_isKept_155 (by decide) ?_
                    exact rhF.zret (pc := 159) dX12_isKept_159 rfl rfl rfl
                  · refine rhF.lload_n (pc := 146) dX12_isKept_146 1 rfl ?_
                    refine rhF.ldc2 (pc := 147) dX12_isKept_147 k_X12_254 ?_
                    refine rhF.lcne (pc := 150) 158 dX12_isKept_150 dX12_isKept_151 (by decide) (fun h11 => ?_) (fun h11 => ?_)
                    · refine rhF.iconst (pc := 154) (v := 1) dX12_isKept_154 (by decide) ?_
                      refine rhF.goto (pc := 155) 159 dX12_isKept_155 (by decide) ?_
                      exact rhF.zret (pc := 159) dX12_isKept_159 rfl rfl rfl
                    · refine rhF.iconst (pc := 158) (v := 0) dX12_isKept_158 (by decide) ?_
                      exact rhF.zret (pc := 159) dX12_isKept_159 rfl rfl rfl
  · refine rhF.iconst (pc := 154) (v := 1) dX12_isKept_154 (by decide) ?_
    refine rhF.goto (pc := 155) 159 dX12_isKept_155 (by decide) ?_
    exact rhF.zret (pc := 159) dX12_isKept_159 rfl rfl rfl
set_option maxHeartbeats 4000000 in
set_option maxRecDepth 100000 in
theorem b_X12_isKept {E : rhE} {Γ : rhG} {M : rhM} : ∀ (v0 : Int64), rhF E 1 3 yX12_isKept cX12_isKept (some .boolean) Γ (rhe0I Γ M) (f_X12_isKept Γ M v0) 0 [(0, rhJ v0)] [] Γ M := by
  intro v0
  rw [f_X12_isKept]
  refine rhF.lload_n (pc := 0) dX12_isKept_0 0 rfl ?_
  refine rhF.ldc2 (pc := 1) dX12_isKept_1 k_X12_220 ?_
  refine rhF.lceq (pc := 4) 72 dX12_isKept_4 dX12_isKept_5 (by decide) (fun h1 => ?_) (fun h1 => ?_)
  · exact (b_X12_isKept_72 (b_X12_isKept_77)) _
  · refine rhF.lload_n (pc := 8) dX12_isKept_8 0 rfl ?_
    refine rhF.ldc2 (pc := 9) dX12_isKept_9 k_X12_222 ?_
    refine rhF.lceq (pc := 12) 72 dX12_isKept_12 dX12_isKept_13 (by decide) (fun h12 => ?_) (fun h12 => ?_)
    · exact (b_X12_isKept_72 (b_X12_isKept_77)) _
    · refine rhF.lload_n (pc := 16) dX12_isKept_16 0 rfl ?_
      refine rhF.ldc2 (pc := 17) dX12_isKept_17 k_X12_224 ?_
      refine rhF.lceq (pc := 20) 72 dX12_isKept_20 dX12_isKept_21 (by decide) (fun h13 => ?_) (fun h13 => ?_)
      · exact (b_X12_isKept_72 (b_X12_isKept_77)) _
      · refine rhF.lload_n (pc := 24) dX12_isKept_24 0 rfl ?_
        refine rhF.ldc2 (pc := 25) dX12_isKept_25 k_X12_226 ?_
        refine rhF.lceq (pc := 28) 72 dX12_isKept_28 dX12_isKept_29 (by decide) (fun h14 => ?_) (fun h14 => ?_)
        · exact (b_X12_isKept_72 (b_X12_isKept_77)) _
        · refine rhF.lload_n (pc := 32) dX12_isKept_32 0 rfl ?_
          refine rhF.ldc2 (pc := 33) dX12_isKept_33 k_X12_228 ?_
          refine rhF.lceq (pc := 36) 72 dX12_isKept_36 dX12_isKept_37 (by decide) (fun h15 => ?_) (fun h15 => ?_)
          · exact (b_X12_isKept_72 (b_X12_isKept_77)) _
          · refine rhF.lload_n (pc := 40) dX12_isKept_40 0 rfl ?_
            refine rhF.ldc2 (pc := 41) dX12_isKept_41 k_X12_230 ?_
            refine rhF.lceq (pc := 44) 72 dX12_isKept_44 dX12_isKept_45 (by decide) (fun h16 => ?_) (fun h16 => ?_)
            · exact (b_X12_isKept_72 (b_X12_isKept_77)) _
            · refine rhF.lload_n (pc := 48) dX12_isKept_48 0 rfl ?_
              refine rhF.ldc2 (pc := 49) dX12_isKept_49 k_X12_232 ?_
              refine rhF.lceq (pc := 52) 72 dX12_isKept_52 dX12_isKept_53 (by decide) (fun h17 => ?_) (fun h17 => ?_)
              · exact (b_X12_isKept_72 (b_X12_isKept_77)) _
              · refine rhF.lload_n (pc := 56) dX12_isKept_56 0 rfl ?_
                refine rhF.ldc2 (pc := 57) dX12_isKept_57 k_X12_234 ?_
                refine rhF.lceq (pc := 60) 72 dX12_isKept_60 dX12_isKept_61 (by decide) (fun h18 => ?_) (fun h18 => ?_)
                · exact (b_X12_isKept_72 (b_X12_isKept_77)) _
                · refine rhF.lload_n (pc := 64) dX12_isKept_64 0 rfl ?_
                  refine rhF.ldc2 (pc := 65) dX12_isKept_65 k_X12_236 ?_
                  refine rhF.lcne (pc := 68) 76 dX12_isKept_68 dX12_isKept_69 (by decide) (fun h19 => ?_) (fun h19 => ?_)
                  · exact (b_X12_isKept_72 (b_X12_isKept_77)) _
                  · refine rhF.iconst (pc := 76) (v := 0) dX12_isKept_76 (by decide) ?_
                    exact (b_X12_isKept_77) _ _
theorem c_X12_isKept (E : rhE) (Γ : rhG) (M : rhM) (v0 : Int64) : ∀ a, f_X12_isKept Γ M v0 = some a → rhC E 1 yX12_isKept cX12_isKept 3 (some .boolean) [rhJ v0] Γ M ((rhe0I Γ M) a) := rhF.met (by decide +kernel) (Nat.le_of_ble_eq_true rfl) (b_X12_isKept v0)
def f_X12_isSign (Γ : rhG) (M : rhM) (v0 : Int32) : Option (Int32) :=
  if v0 = 59 then
    (some 1)
  else
    if v0 = 40 then
      (some 1)
    else
      if v0 = 41 then
        (some 1)
      else
        if v0 = 60 then
          (some 1)
        else
          if v0 = 62 then
            (some 1)
          else
            if v0 = 61 then
              (some 1)
            else
              if v0 = 43 then
                (some 1)
              else
                if v0 = 45 then
                  (some 1)
                else
                  if v0 = 42 then
                    (some 1)
                  else
                    if v0 = 47 then
                      (some 1)
                    else
                      some 0
set_option maxHeartbeats 4000000 in
set_option maxRecDepth 100000 in
theorem b_X12_isSign {E : rhE} {Γ : rhG} {M : rhM} : ∀ (v0 : Int32), rhF E 1 1 yX12_isSign cX12_isSign (some .boolean) Γ (rhe0I Γ M) (f_X12_isSign Γ M v0) 0 [(0, rhI v0)] [] Γ M := by
  intro v0
  rw [f_X12_isSign]
  refine rhF.iload_n (pc := 0) dX12_isSign_0 0 rfl ?_
  refine rhF.bipush (pc := 1) (v := 59) dX12_isSign_1 (by decide) ?_
  refine rhF.icmp_eq (pc := 3) 60 dX12_isSign_3 (by decide) (fun h1 => ?_) (fun h1 => ?_)
  · refine rhF.iconst (pc := 60) (v := 1) dX12_isSign_60 (by decide) ?_
    refine rhF.goto (pc := 61) 65 dX12_isSign_61 (by decide) ?_
    exact rhF.zret (pc := 65) dX12_isSign_65 rfl rfl rfl
  · refine rhF.iload_n (pc := 6) dX12_isSign_6 0 rfl ?_
    refine rhF.bipush (pc := 7) (v := 40) dX12_isSign_7 (by decide) ?_
    refine rhF.icmp_eq (pc := 9) 60 dX12_isSign_9 (by decide) (fun h2 => ?_) (fun h2 => ?_)
    · refine rhF.iconst (pc := 60) (v := 1) dX12_isSign_60 (by decide) ?_
      refine rhF.goto (pc := 61) 65 dX12_isSign_61 (by decide) ?_
      exact rhF.zret (pc := 65) dX12_isSign_65 rfl rfl rfl
    · refine rhF.iload_n (pc := 12) dX12_isSign_12 0 rfl ?_
      refine rhF.bipush (pc := 13) (v := 41) dX12_isSign_13 (by decide) ?_
      refine rhF.icmp_eq (pc := 15) 60 dX12_isSign_15 (by decide) (fun h3 => ?_) (fun h3 => ?_)
      · refine rhF.iconst (pc := 60) (v := 1) dX12_isSign_60 (by decide) ?_
        refine rhF.goto (pc := 61) 65 dX12_isSign_61 (by decide) ?_
        exact rhF.zret (pc := 65) dX12_isSign_65 rfl rfl rfl
      · refine rhF.iload_n (pc := 18) dX12_isSign_18 0 rfl ?_
        refine rhF.bipush (pc := 19) (v := 60) dX12_isSign_19 (by decide) ?_
        refine rhF.icmp_eq (pc := 21) 60 dX12_isSign_21 (by decide) (fun h4 => ?_) (fun h4 => ?_)
        · refine rhF.iconst (pc := 60) (v := 1) dX12_isSign_60 (by decide) ?_
          refine rhF.goto (pc := 61) 65 dX12_isSign_61 (by decide) ?_
          exact rhF.zret (pc := 65) dX12_isSign_65 rfl rfl rfl
        · refine rhF.iload_n (pc := 24) dX12_isSign_24 0 rfl ?_
          refine rhF.bipush (pc := 25) (v := 62) dX12_isSign_25 (by decide) ?_
          refine rhF.icmp_eq (pc := 27) 60 dX12_isSign_27 (by decide) (fun h5 => ?_) (fun h5 => ?_)
          · refine rhF.iconst (pc := 60) (v := 1) dX12_isSign_60 (by decide) ?_
            refine rhF.goto (pc := 61) 65 dX12_isSign_61 (by decide) ?_
            exact rhF.zret (pc := 65) dX12_isSign_65 rfl rfl rfl
          · refine rhF.iload_n (pc := 30) dX12_isSign_30 0 rfl ?_
            refine rhF.bipush (pc := 31) (v := 61) dX12_isSign_31 (by decide) ?_
            refine rhF.icmp_eq (pc := 33) 60 dX12_isSign_33 (by decide) (fun h6 => ?_) (fun h6 => ?_)
            · refine rhF.iconst (pc := 60) (v := 1) dX12_isSign_60 (by decide) ?_
              refine rhF.goto (pc := 61) 65 dX12_isSign_61 (by decide) ?_
              exact rhF.zret (pc := 65) dX12_isSign_65 rfl rfl rfl
            · refine rhF.iload_n (pc := 36) dX12_isSign_36 0 rfl ?_
              refine rhF.bipush (pc := 37) (v := 43) dX12_isSign_37 (by decide) ?_
              refine rhF.icmp_eq (pc := 39) 60 dX12_isSign_39 (by decide) (fun h7 => ?_) (fun h7 => ?_)
              · refine rhF.iconst (pc := 60) (v := 1) dX12_isSign_60 (by decide) ?_
                refine rhF.goto (pc := 61) 65 dX12_isSign_61 (by decide) ?_
                exact rhF.zret (pc := 65) dX12_isSign_65 rfl rfl rfl
              · refine rhF.iload_n (pc := 42) dX12_isSign_42 0 rfl ?_
                refine rhF.bipush (pc := 43) (v := 45) dX12_isSign_43 (by decide) ?_
                refine rhF.icmp_eq (pc := 45) 60 dX12_isSign_45 (by decide) (fun h8 => ?_) (fun h8 => ?_)
                · refine rhF.iconst (pc := 60) (v := 1) dX12_isSign_60 (by decide) ?_
                  refine rhF.goto (pc := 61) 65 dX12_isSign_61 (by decide) ?_
                  exact rhF.zret (pc := 65) dX12_isSign_65 rfl rfl rfl
                · refine rhF.iload_n (pc := 48) dX12_isSign_48 0 rfl ?_
                  refine rhF.bipush (pc := 49) (v := 42) dX12_isSign_49 (by decide) ?_
                  refine rhF.icmp_eq (pc := 51) 60 dX12_isSign_51 (by decide) (fun h9 => ?_) (fun h9 => ?_)
                  · refine rhF.iconst (pc := 60) (v := 1) dX12_isSign_60 (by decide) ?_
                    refine rhF.goto (pc := 61) 65 dX12_isSign_61 (by decide) ?_
                    exact rhF.zret (pc := 65) dX12_isSign_65 rfl rfl rfl
                  · refine rhF.iload_n (pc := 54) dX12_isSign_54 0 rfl ?_
                    refine rhF.bipush (pc := 55) (v := 47) dX12_isSign_55 (by decide) ?_
                    refine rhF.icmp_ne (pc := 57) 64 dX12_isSign_57 (by decide) (fun h10 => ?_) (fun h10 => ?_)
                    · refine rhF.iconst (pc := 60) (v := 1) dX12_isSign_60 (by decide) ?_
                      refine rhF.goto (pc := 61) 65 dX12_isSign_61 (by decide) ?_
                      exact rhF.zret (pc := 65) dX12_isSign_65 rfl rfl rfl
                    · refine rhF.iconst (pc := 64) (v := 0) dX12_isSign_64 (by decide) ?_
                      exact rhF.zret (pc := 65) dX12_isSign_65 rfl rfl rfl
theorem c_X12_isSign (E : rhE) (Γ : rhG) (M : rhM) (v0 : Int32) : ∀ a, f_X12_isSign Γ M v0 = some a → rhC E 1 yX12_isSign cX12_isSign 1 (some .boolean) [rhI v0] Γ M ((rhe0I Γ M) a) := rhF.met (by decide +kernel) (Nat.le_of_ble_eq_true rfl) (b_X12_isSign v0)
def f_X12_sign (Γ : rhG) (M : rhM) (v0 : Nat) (v1 : Int32) : Option (Int32) :=
  rhck (Γ.2.2.1 v0 = 13) <|
  if v1 < (M.1 v0 3) then
    (rhck (Γ.2.2.1 (M.2.2 v0 1) = 14) <|
    rhck (0 ≤ (v1).toInt ∧ (v1).toInt < (Γ.2.2.2 (M.2.2 v0 1) : Nat)) <|
    some ((M.1 (M.2.2 v0 1) v1.toNatClampNeg) &&& 255))
  else
    some 0
set_option maxHeartbeats 4000000 in
set_option maxRecDepth 100000 in
theorem b_X12_sign {E : rhE} {Γ : rhG} {M : rhM} : ∀ (v0 : Nat) (v1 : Int32), rhF E 1 2 yX12_sign cX12_sign (some .int) Γ (rhe0I Γ M) (f_X12_sign Γ M v0 v1) 0 [(0, rhR v0), (1, rhI v1)] [] Γ M := by
  intro v0 v1
  rw [f_X12_sign]
  refine rhF.iload_n (pc := 0) dX12_sign_0 1 rfl ?_
  refine rhF.aload_n (pc := 1) dX12_sign_1 0 rfl ?_
  refine rhF.ck (fun h1 => ?_)
  refine rhF.get (pc := 2) (rhI _) dX12_sign_2 fl_X12_214 h1 rfl ?_
  refine rhF.icmp_ge (pc := 5) 21 dX12_sign_5 (by decide) (fun h2 => ?_) (fun h2 => ?_)
  · refine rhF.aload_n (pc := 8) dX12_sign_8 0 rfl ?_
    refine rhF.get (pc := 9) (rhR _) dX12_sign_9 fl_X12_13 h1 rfl ?_
    refine rhF.iload_n (pc := 12) dX12_sign_12 1 rfl ?_
    refine rhF.ck (fun h3 => ?_)
    refine rhF.ck (fun h4 => ?_)
    refine rhF.bald (pc := 13) dX12_sign_13 h3 h4 ?_
    refine rhF.sipush (pc := 14) (v := 255) dX12_sign_14 (by decide) ?_
    refine rhF.iand (pc := 17) dX12_sign_17 ?_
    refine rhF.goto (pc := 18) 22 dX12_sign_18 (by decide) ?_
    exact rhF.zret (pc := 22) dX12_sign_22 rfl rfl rfl
  · refine rhF.iconst (pc := 21) (v := 0) dX12_sign_21 (by decide) ?_
    exact rhF.zret (pc := 22) dX12_sign_22 rfl rfl rfl
theorem c_X12_sign (E : rhE) (Γ : rhG) (M : rhM) (v0 : Nat) (v1 : Int32) : ∀ a, f_X12_sign Γ M v0 v1 = some a → rhC E 1 yX12_sign cX12_sign 2 (some .int) [rhR v0, rhI v1] Γ M ((rhe0I Γ M) a) := rhF.met (by decide +kernel) (Nat.le_of_ble_eq_true rfl) (b_X12_sign v0 v1)
def f_X12_goOn_45 (k8 : rhM → Nat → Option (rhM)) (Γ : rhG) (M : rhM) (v0 : Nat) : Option (rhM) :=
  rhck (Γ.2.2.1 v0 = 13) <|
  let M8 := rhsi M v0 6 ((M.1 v0 6) + 1)
  k8 M8 v0
def f_X12_goOn_8 (k58 : rhM → Nat → Option (rhM)) (Γ : rhG) : Nat → rhM → Nat → Option (rhM)
  | 0, _, _ => none
  | n + 1, M, v0 =>
    rhck (Γ.2.2.1 v0 = 13) <|
    if (M.1 v0 6) < (M.1 v0 3) then
      ((f_X12_sign Γ M v0 (M.1 v0 6)).bind fun r5 =>
      if r5 = 32 then
        (f_X12_goOn_45 (f_X12_goOn_8 k58 Γ n) Γ M v0)
      else
        (f_X12_sign Γ M v0 (M.1 v0 6)).bind fun r9 =>
        if r9 = 10 then
          (f_X12_goOn_45 (f_X12_goOn_8 k58 Γ n) Γ M v0)
        else
          k58 M v0)
    else
      k58 M v0
def f_X12_goOn_374 (Γ : rhG) (M : rhM) (s0 : Nat) (s1 : Int32) : Option (rhM) :=
  rhck (Γ.2.2.1 s0 = 13) <|
  let M22 := rhsi M s0 8 s1
  some M22
def f_X12_goOn_309 (k259 : rhM → Nat → Option (rhM)) (Γ : rhG) (M : rhM) (v0 : Nat) : Option (rhM) :=
  rhck (Γ.2.2.1 v0 = 13) <|
  let M33 := rhsi M v0 7 ((M.1 v0 7) + 1)
  k259 M33 v0
def f_X12_goOn_259 (k322 : rhM → Nat → Option (rhM)) (Γ : rhG) : Nat → rhM → Nat → Option (rhM)
  | 0, _, _ => none
  | n + 1, M, v0 =>
    rhck (Γ.2.2.1 v0 = 13) <|
    (f_X12_sign Γ M v0 (M.1 v0 7)).bind fun r26 =>
    (f_X12_isDigit Γ M r26).bind fun r27 =>
    if r27 = 0 then
      (k322 M v0)
    else
      if ((M.1 v0 7) - (M.1 v0 6)) < 4 then
        ((f_X12_sign Γ M v0 (M.1 v0 7)).bind fun r30 =>
        let M31 := rhsi M v0 9 (((10 * (M.1 v0 9)) + r30) - 48)
        f_X12_goOn_309 (f_X12_goOn_259 k322 Γ n) Γ M31 v0)
      else
        f_X12_goOn_309 (f_X12_goOn_259 k322 Γ n) Γ M v0
def f_X12_goOn_350 (k355 : rhM → Nat → Int32 → Option (rhM)) (Γ : rhG) (M : rhM) (s0 : Nat) : Option (rhM) :=
  k355 M s0 1
def f_X12_goOn_355 (Γ : rhG) (M : rhM) (s0 : Nat) (s1 : Int32) : Option (rhM) :=
  rhck (Γ.2.2.1 s0 = 13) <|
  let M37 := rhsi M s0 8 s1
  some M37
def f_X12_goOn_322 (Γ : rhG) (M : rhM) (v0 : Nat) : Option (rhM) :=
  rhck (Γ.2.2.1 v0 = 13) <|
  if 4 < ((M.1 v0 7) - (M.1 v0 6)) then
    (f_X12_goOn_350 (f_X12_goOn_355 Γ) Γ M v0)
  else
    (f_X12_sign Γ M v0 (M.1 v0 7)).bind fun r38 =>
    (f_X12_isLetter Γ M r38).bind fun r39 =>
    if r39 = 0 then
      (f_X12_goOn_355 Γ M v0 4)
    else
      f_X12_goOn_350 (f_X12_goOn_355 Γ) Γ M v0
def f_X12_goOn_119 (k146 : rhM → Nat → Option (rhM)) (Γ : rhG) : Nat → rhM → Nat → Option (rhM)
  | 0, _, _ => none
  | n + 1, M, v0 =>
    rhck (Γ.2.2.1 v0 = 13) <|
    (f_X12_sign Γ M v0 (M.1 v0 7)).bind fun r42 =>
    (f_X12_isLetter Γ M r42).bind fun r43 =>
    if r43 = 0 then
      (k146 M v0)
    else
      let M45 := rhsi M v0 7 ((M.1 v0 7) + 1)
      f_X12_goOn_119 k146 Γ n M45 v0
def f_X12_goOn_156 (k199 : rhM → Nat → Option (rhM)) (Γ : rhG) : Nat → rhM → Nat → Int32 → Option (rhM)
  | 0, _, _, _ => none
  | n + 1, M, v0, v2 =>
    rhck (Γ.2.2.1 v0 = 13) <|
    if v2 < (M.1 v0 7) then
      (if v2 < ((M.1 v0 6) + 8) then
        ((f_X12_sign Γ M v0 v2).bind fun r52 =>
        let M53 := rhsl M v0 10 ((rhsh (M.2.1 v0 10) 8) ||| (Int32.toInt64 r52))
        let x54 : Int32 := v2 + 1
        f_X12_goOn_156 k199 Γ n M53 v0 x54)
      else
        k199 M v0)
    else
      k199 M v0
def f_X12_goOn_233 (Γ : rhG) (M : rhM) (s0 : Nat) (s1 : Int32) : Option (rhM) :=
  rhck (Γ.2.2.1 s0 = 13) <|
  let M58 := rhsi M s0 8 s1
  some M58
def f_X12_goOn_199 (Γ : rhG) (M : rhM) (v0 : Nat) : Option (rhM) :=
  rhck (Γ.2.2.1 v0 = 13) <|
  if 8 < ((M.1 v0 7) - (M.1 v0 6)) then
    (f_X12_goOn_233 Γ M v0 1)
  else
    (f_X12_isKept Γ M (M.2.1 v0 10)).bind fun r59 =>
    if r59 = 0 then
      (f_X12_goOn_233 Γ M v0 2)
    else
      f_X12_goOn_233 Γ M v0 3
def f_X12_goOn_146 (Γ : rhG) (M : rhM) (v0 : Nat) : Option (rhM) :=
  rhck (Γ.2.2.1 v0 = 13) <|
  let M47 := rhsl M v0 10 ((0 : Int64))
  let x48 := M.1 v0 6
  f_X12_goOn_156 (f_X12_goOn_199 Γ) Γ rhFU M47 v0 x48
def f_X12_goOn_58 (Γ : rhG) (M : rhM) (v0 : Nat) : Option (rhM) :=
  rhck (Γ.2.2.1 v0 = 13) <|
  (f_X12_sign Γ M v0 (M.1 v0 6)).bind fun r12 =>
  let M13 := rhsi M v0 7 ((M.1 v0 6) + 1)
  if (M13.1 v0 6) < (M13.1 v0 3) then
    ((f_X12_isLetter Γ M13 r12).bind fun r15 =>
    if r15 = 0 then
      ((f_X12_isDigit Γ M13 r12).bind fun r17 =>
      if r17 = 0 then
        ((f_X12_isSign Γ M13 r12).bind fun r19 =>
        if r19 = 0 then
          (f_X12_goOn_374 Γ M13 v0 1)
        else
          f_X12_goOn_374 Γ M13 v0 5)
      else
        let M23 := rhsi M13 v0 9 0
        let M24 := rhsi M23 v0 7 (M23.1 v0 6)
        f_X12_goOn_259 (f_X12_goOn_322 Γ) Γ rhFU M24 v0)
    else
      f_X12_goOn_119 (f_X12_goOn_146 Γ) Γ rhFU M13 v0)
  else
    let M61 := rhsi M13 v0 8 0
    let M62 := rhsi M61 v0 6 (M61.1 v0 3)
    let M63 := rhsi M62 v0 7 (M62.1 v0 3)
    some M63
def f_X12_goOn (Γ : rhG) (M : rhM) (v0 : Nat) : Option (rhM) :=
  rhck (Γ.2.2.1 v0 = 13) <|
  let M2 := rhsi M v0 6 (M.1 v0 7)
  f_X12_goOn_8 (f_X12_goOn_58 Γ) Γ rhFU M2 v0
set_option maxHeartbeats 4000000 in
set_option maxRecDepth 100000 in
theorem b_X12_goOn_45 {E : rhE} {Γ : rhG} {k8 : rhM → Nat → Option (rhM)} (hk8 : ∀ (M : rhM) (v0 : Nat), rhF E 5 3 yX12_goOn cX12_goOn none Γ (rhe1U Γ) (k8 M v0) 8 [(0, rhR v0)] [] Γ M) : ∀ (M : rhM) (v0 : Nat), rhF E 5 3 yX12_goOn cX12_goOn none Γ (rhe1U Γ) (f_X12_goOn_45 k8 Γ M v0) 45 [(0, rhR v0)] [] Γ M := by
  intro M v0
  rw [f_X12_goOn_45]
  refine rhF.aload_n (pc := 45) dX12_goOn_45 0 rfl ?_
  refine rhF.dupr (pc := 46) dX12_goOn_46 ?_
  refine rhF.ck (fun h7 => ?_)
  refine rhF.get (pc := 47) (rhI _) dX12_goOn_47 fl_X12_259 h7 rfl ?_
  refine rhF.iconst (pc := 50) (v := 1) dX12_goOn_50 (by decide) ?_
  refine rhF.iadd (pc := 51) dX12_goOn_51 ?_
  refine rhF.puti (pc := 52) dX12_goOn_52 fl_X12_259 h7 (fun q hq => by cases hq; exact Or.inl rfl) ⟨rfl, rfl⟩ (fun _ => rfl) ?_
  refine rhF.goto (pc := 55) 8 dX12_goOn_55 (by decide) ?_
  exact hk8 _ _
set_option maxHeartbeats 4000000 in
set_option maxRecDepth 100000 in
theorem b_X12_goOn_8 {E : rhE} {Γ : rhG} {k58 : rhM → Nat → Option (rhM)} (hk58 : ∀ (M : rhM) (v0 : Nat), rhF E 5 3 yX12_goOn cX12_goOn none Γ (rhe1U Γ) (k58 M v0) 58 [(0, rhR v0)] [] Γ M) : ∀ (n : Nat) (M : rhM) (v0 : Nat), rhF E 5 3 yX12_goOn cX12_goOn none Γ (rhe1U Γ) (f_X12_goOn_8 k58 Γ n M v0) 8 [(0, rhR v0)] [] Γ M := by
  intro n
  induction n with
  | zero => intro M v0; rw [f_X12_goOn_8]; exact rhF.nope
  | succ n ih =>
    intro M v0
    rw [f_X12_goOn_8]
    refine rhF.aload_n (pc := 8) dX12_goOn_8 0 rfl ?_
    refine rhF.ck (fun h3 => ?_)
    refine rhF.get (pc := 9) (rhI _) dX12_goOn_9 fl_X12_259 h3 rfl ?_
    refine rhF.aload_n (pc := 12) dX12_goOn_12 0 rfl ?_
    refine rhF.get (pc := 13) (rhI _) dX12_goOn_13 fl_X12_214 h3 rfl ?_
    refine rhF.icmp_ge (pc := 16) 58 dX12_goOn_16 (by decide) (fun h4 => ?_) (fun h4 => ?_)
    · refine rhF.aload_n (pc := 19) dX12_goOn_19 0 rfl ?_
      refine rhF.aload_n (pc := 20) dX12_goOn_20 0 rfl ?_
      refine rhF.get (pc := 21) (rhI _) dX12_goOn_21 fl_X12_259 h3 rfl ?_
      refine rhF.callV (pc := 24) (ci := 12) (embc := rhe0I _ _) [rhI _] dX12_goOn_24 ml_X12_262 mv_X12_sign ⟨_, rfl, rfl⟩ h3 (c_X12_sign _ _ _ _ _) (by decide) (by decide) rfl (Nat.le_of_ble_eq_true rfl) (fun r5 _ => ?_)
      refine rhF.bipush (pc := 27) (v := 32) dX12_goOn_27 (by decide) ?_
      refine rhF.icmp_eq (pc := 29) 45 dX12_goOn_29 (by decide) (fun h6 => ?_) (fun h6 => ?_)
      · exact (b_X12_goOn_45 ih) _ _
      · refine rhF.aload_n (pc := 32) dX12_goOn_32 0 rfl ?_
        refine rhF.aload_n (pc := 33) dX12_goOn_33 0 rfl ?_
        refine rhF.get (pc := 34) (rhI _) dX12_goOn_34 fl_X12_259 h3 rfl ?_
        refine rhF.callV (pc := 37) (ci := 12) (embc := rhe0I _ _) [rhI _] dX12_goOn_37 ml_X12_262 mv_X12_sign ⟨_, rfl, rfl⟩ h3 (c_X12_sign _ _ _ _ _) (by decide) (by decide) rfl (Nat.le_of_ble_eq_true rfl) (fun r9 _ => ?_)
        refine rhF.bipush (pc := 40) (v := 10) dX12_goOn_40 (by decide) ?_
        refine rhF.icmp_ne (pc := 42) 58 dX12_goOn_42 (by decide) (fun h10 => ?_) (fun h10 => ?_)
        · exact (b_X12_goOn_45 ih) _ _
        · exact hk58 _ _
    · exact hk58 _ _
set_option maxHeartbeats 4000000 in
set_option maxRecDepth 100000 in
theorem b_X12_goOn_374 {E : rhE} {Γ : rhG} : ∀ (M : rhM) (s0 : Nat) (s1 : Int32), rhF E 5 3 yX12_goOn cX12_goOn none Γ (rhe1U Γ) (f_X12_goOn_374 Γ M s0 s1) 374 [] [rhI s1, rhR s0] Γ M := by
  intro M s0 s1
  rw [f_X12_goOn_374]
  refine rhF.ck (fun h21 => ?_)
  refine rhF.puti (pc := 374) dX12_goOn_374 fl_X12_266 h21 (fun q hq => by cases hq; exact Or.inl rfl) ⟨rfl, rfl⟩ (fun _ => rfl) ?_
  exact rhF.vret (pc := 377) dX12_goOn_377 rfl rfl
set_option maxHeartbeats 4000000 in
set_option maxRecDepth 100000 in
theorem b_X12_goOn_309 {E : rhE} {Γ : rhG} {k259 : rhM → Nat → Option (rhM)} (hk259 : ∀ (M : rhM) (v0 : Nat), rhF E 5 3 yX12_goOn cX12_goOn none Γ (rhe1U Γ) (k259 M v0) 259 [(0, rhR v0)] [] Γ M) : ∀ (M : rhM) (v0 : Nat), rhF E 5 3 yX12_goOn cX12_goOn none Γ (rhe1U Γ) (f_X12_goOn_309 k259 Γ M v0) 309 [(0, rhR v0)] [] Γ M := by
  intro M v0
  rw [f_X12_goOn_309]
  refine rhF.aload_n (pc := 309) dX12_goOn_309 0 rfl ?_
  refine rhF.dupr (pc := 310) dX12_goOn_310 ?_
  refine rhF.ck (fun h32 => ?_)
  refine rhF.get (pc := 311) (rhI _) dX12_goOn_311 fl_X12_256 h32 rfl ?_
  refine rhF.iconst (pc := 314) (v := 1) dX12_goOn_314 (by decide) ?_
  refine rhF.iadd (pc := 315) dX12_goOn_315 ?_
  refine rhF.puti (pc := 316) dX12_goOn_316 fl_X12_256 h32 (fun q hq => by cases hq; exact Or.inl rfl) ⟨rfl, rfl⟩ (fun _ => rfl) ?_
  refine rhF.goto (pc := 319) 259 dX12_goOn_319 (by decide) ?_
  exact hk259 _ _
set_option maxHeartbeats 4000000 in
set_option maxRecDepth 100000 in
theorem b_X12_goOn_259 {E : rhE} {Γ : rhG} {k322 : rhM → Nat → Option (rhM)} (hk322 : ∀ (M : rhM) (v0 : Nat), rhF E 5 3 yX12_goOn cX12_goOn none Γ (rhe1U Γ) (k322 M v0) 322 [(0, rhR v0)] [] Γ M) : ∀ (n : Nat) (M : rhM) (v0 : Nat), rhF E 5 3 yX12_goOn cX12_goOn none Γ (rhe1U Γ) (f_X12_goOn_259 k322 Γ n M v0) 259 [(0, rhR v0)] [] Γ M := by
  intro n
  induction n with
  | zero => intro M v0; rw [f_X12_goOn_259]; exact rhF.nope
  | succ n ih =>
    intro M v0
    rw [f_X12_goOn_259]
    refine rhF.aload_n (pc := 259) dX12_goOn_259 0 rfl ?_
    refine rhF.aload_n (pc := 260) dX12_goOn_260 0 rfl ?_
    refine rhF.ck (fun h25 => ?_)
    refine rhF.get (pc := 261) (rhI _) dX12_goOn_261 fl_X12_256 h25 rfl ?_
    refine rhF.callV (pc := 264) (ci := 12) (embc := rhe0I _ _) [rhI _] dX12_goOn_264 ml_X12_262 mv_X12_sign ⟨_, rfl, rfl⟩ h25 (c_X12_sign _ _ _ _ _) (by decide) (by decide) rfl (Nat.le_of_ble_eq_true rfl) (fun r26 _ => ?_)
    refine rhF.callS (pc := 267) (embc := rhe0I _ _) [rhI _] dX12_goOn_267 ml_X12_281 ms_X12_isDigit (c_X12_isDigit _ _ _ _) (by decide) (by decide) rfl (Nat.le_of_ble_eq_true rfl) (fun r27 _ => ?_)
    refine rhF.if_eq (pc := 270) 322 dX12_goOn_270 (by decide) (fun h28 => ?_) (fun h28 => ?_)
    · exact hk322 _ _
    · refine rhF.aload_n (pc := 273) dX12_goOn_273 0 rfl ?_
      refine rhF.get (pc := 274) (rhI _) dX12_goOn_274 fl_X12_256 h25 rfl ?_
      refine rhF.aload_n (pc := 277) dX12_goOn_277 0 rfl ?_
      refine rhF.get (pc := 278) (rhI _) dX12_goOn_278 fl_X12_259 h25 rfl ?_
      refine rhF.isub (pc := 281) dX12_goOn_281 ?_
      refine rhF.iconst (pc := 282) (v := 4) dX12_goOn_282 (by decide) ?_
      refine rhF.icmp_ge (pc := 283) 309 dX12_goOn_283 (by decide) (fun h29 => ?_) (fun h29 => ?_)
      · refine rhF.aload_n (pc := 286) dX12_goOn_286 0 rfl ?_
        refine rhF.bipush (pc := 287) (v := 10) dX12_goOn_287 (by decide) ?_
        refine rhF.aload_n (pc := 289) dX12_goOn_289 0 rfl ?_
        refine rhF.get (pc := 290) (rhI _) dX12_goOn_290 fl_X12_284 h25 rfl ?_
        refine rhF.imul (pc := 293) dX12_goOn_293 ?_
        refine rhF.aload_n (pc := 294) dX12_goOn_294 0 rfl ?_
        refine rhF.aload_n (pc := 295) dX12_goOn_295 0 rfl ?_
        refine rhF.get (pc := 296) (rhI _) dX12_goOn_296 fl_X12_256 h25 rfl ?_
        refine rhF.callV (pc := 299) (ci := 12) (embc := rhe0I _ _) [rhI _] dX12_goOn_299 ml_X12_262 mv_X12_sign ⟨_, rfl, rfl⟩ h25 (c_X12_sign _ _ _ _ _) (by decide) (by decide) rfl (Nat.le_of_ble_eq_true rfl) (fun r30 _ => ?_)
        refine rhF.iadd (pc := 302) dX12_goOn_302 ?_
        refine rhF.bipush (pc := 303) (v := 48) dX12_goOn_303 (by decide) ?_
        refine rhF.isub (pc := 305) dX12_goOn_305 ?_
        refine rhF.puti (pc := 306) dX12_goOn_306 fl_X12_284 h25 (fun q hq => by cases hq; exact Or.inl rfl) ⟨rfl, rfl⟩ (fun _ => rfl) ?_
        exact (b_X12_goOn_309 ih) _ _
      · exact (b_X12_goOn_309 ih) _ _
set_option maxHeartbeats 4000000 in
set_option maxRecDepth 100000 in
theorem b_X12_goOn_350 {E : rhE} {Γ : rhG} {k355 : rhM → Nat → Int32 → Option (rhM)} (hk355 : ∀ (M : rhM) (s0 : Nat) (s1 : Int32), rhF E 5 3 yX12_goOn cX12_goOn none Γ (rhe1U Γ) (k355 M s0 s1) 355 [] [rhI s1, rhR s0] Γ M) : ∀ (M : rhM) (s0 : Nat), rhF E 5 3 yX12_goOn cX12_goOn none Γ (rhe1U Γ) (f_X12_goOn_350 k355 Γ M s0) 350 [] [rhR s0] Γ M := by
  intro M s0
  rw [f_X12_goOn_350]
  refine rhF.iconst (pc := 350) (v := 1) dX12_goOn_350 (by decide) ?_
  refine rhF.goto (pc := 351) 355 dX12_goOn_351 (by decide) ?_
  exact hk355 _ _ _
set_option maxHeartbeats 4000000 in
set_option maxRecDepth 100000 in
theorem b_X12_goOn_355 {E : rhE} {Γ : rhG} : ∀ (M : rhM) (s0 : Nat) (s1 : Int32), rhF E 5 3 yX12_goOn cX12_goOn none Γ (rhe1U Γ) (f_X12_goOn_355 Γ M s0 s1) 355 [] [rhI s1, rhR s0] Γ M := by
  intro M s0 s1
  rw [f_X12_goOn_355]
  refine rhF.ck (fun h36 => ?_)
  refine rhF.puti (pc := 355) dX12_goOn_355 fl_X12_266 h36 (fun q hq => by cases hq; exact Or.inl rfl) ⟨rfl, rfl⟩ (fun _ => rfl) ?_
  refine rhF.goto (pc := 358) 377 dX12_goOn_358 (by decide) ?_
  exact rhF.vret (pc := 377) dX12_goOn_377 rfl rfl
set_option maxHeartbeats 4000000 in
set_option maxRecDepth 100000 in
theorem b_X12_goOn_322 {E : rhE} {Γ : rhG} : ∀ (M : rhM) (v0 : Nat), rhF E 5 3 yX12_goOn cX12_goOn none Γ (rhe1U Γ) (f_X12_goOn_322 Γ M v0) 322 [(0, rhR v0)] [] Γ M := by
  intro M v0
  rw [f_X12_goOn_322]
  refine rhF.aload_n (pc := 322) dX12_goOn_322 0 rfl ?_
  refine rhF.aload_n (pc := 323) dX12_goOn_323 0 rfl ?_
  refine rhF.ck (fun h34 => ?_)
  refine rhF.get (pc := 324) (rhI _) dX12_goOn_324 fl_X12_256 h34 rfl ?_
  refine rhF.aload_n (pc := 327) dX12_goOn_327 0 rfl ?_
  refine rhF.get (pc := 328) (rhI _) dX12_goOn_328 fl_X12_259 h34 rfl ?_
  refine rhF.isub (pc := 331) dX12_goOn_331 ?_
  refine rhF.iconst (pc := 332) (v := 4) dX12_goOn_332 (by decide) ?_
  refine rhF.icmp_gt (pc := 333) 350 dX12_goOn_333 (by decide) (fun h35 => ?_) (fun h35 => ?_)
  · refine rhF.sub [] rfl ?_
    exact (b_X12_goOn_350 (b_X12_goOn_355)) _ _
  · refine rhF.aload_n (pc := 336) dX12_goOn_336 0 rfl ?_
    refine rhF.aload_n (pc := 337) dX12_goOn_337 0 rfl ?_
    refine rhF.get (pc := 338) (rhI _) dX12_goOn_338 fl_X12_256 h34 rfl ?_
    refine rhF.callV (pc := 341) (ci := 12) (embc := rhe0I _ _) [rhI _] dX12_goOn_341 ml_X12_262 mv_X12_sign ⟨_, rfl, rfl⟩ h34 (c_X12_sign _ _ _ _ _) (by decide) (by decide) rfl (Nat.le_of_ble_eq_true rfl) (fun r38 _ => ?_)
    refine rhF.callS (pc := 344) (embc := rhe0I _ _) [rhI _] dX12_goOn_344 ml_X12_269 ms_X12_isLetter (c_X12_isLetter _ _ _ _) (by decide) (by decide) rfl (Nat.le_of_ble_eq_true rfl) (fun r39 _ => ?_)
    refine rhF.if_eq (pc := 347) 354 dX12_goOn_347 (by decide) (fun h40 => ?_) (fun h40 => ?_)
    · refine rhF.iconst (pc := 354) (v := 4) dX12_goOn_354 (by decide) ?_
      refine rhF.sub [] rfl ?_
      exact (b_X12_goOn_355) _ _ _
    · refine rhF.sub [] rfl ?_
      exact (b_X12_goOn_350 (b_X12_goOn_355)) _ _
set_option maxHeartbeats 4000000 in
set_option maxRecDepth 100000 in
theorem b_X12_goOn_119 {E : rhE} {Γ : rhG} {k146 : rhM → Nat → Option (rhM)} (hk146 : ∀ (M : rhM) (v0 : Nat), rhF E 5 3 yX12_goOn cX12_goOn none Γ (rhe1U Γ) (k146 M v0) 146 [(0, rhR v0)] [] Γ M) : ∀ (n : Nat) (M : rhM) (v0 : Nat), rhF E 5 3 yX12_goOn cX12_goOn none Γ (rhe1U Γ) (f_X12_goOn_119 k146 Γ n M v0) 119 [(0, rhR v0)] [] Γ M := by
  intro n
  induction n with
  | zero => intro M v0; rw [f_X12_goOn_119]; exact rhF.nope
  | succ n ih =>
    intro M v0
    rw [f_X12_goOn_119]
    refine rhF.aload_n (pc := 119) dX12_goOn_119 0 rfl ?_
    refine rhF.aload_n (pc := 120) dX12_goOn_120 0 rfl ?_
    refine rhF.ck (fun h41 => ?_)
    refine rhF.get (pc := 121) (rhI _) dX12_goOn_121 fl_X12_256 h41 rfl ?_
    refine rhF.callV (pc := 124) (ci := 12) (embc := rhe0I _ _) [rhI _] dX12_goOn_124 ml_X12_262 mv_X12_sign ⟨_, rfl, rfl⟩ h41 (c_X12_sign _ _ _ _ _) (by decide) (by decide) rfl (Nat.le_of_ble_eq_true rfl) (fun r42 _ => ?_)
    refine rhF.callS (pc := 127) (embc := rhe0I _ _) [rhI _] dX12_goOn_127 ml_X12_269 ms_X12_isLetter (c_X12_isLetter _ _ _ _) (by decide) (by decide) rfl (Nat.le_of_ble_eq_true rfl) (fun r43 _ => ?_)
    refine rhF.if_eq (pc := 130) 146 dX12_goOn_130 (by decide) (fun h44 => ?_) (fun h44 => ?_)
    · exact hk146 _ _
    · refine rhF.aload_n (pc := 133) dX12_goOn_133 0 rfl ?_
      refine rhF.dupr (pc := 134) dX12_goOn_134 ?_
      refine rhF.get (pc := 135) (rhI _) dX12_goOn_135 fl_X12_256 h41 rfl ?_
      refine rhF.iconst (pc := 138) (v := 1) dX12_goOn_138 (by decide) ?_
      refine rhF.iadd (pc := 139) dX12_goOn_139 ?_
      refine rhF.puti (pc := 140) dX12_goOn_140 fl_X12_256 h41 (fun q hq => by cases hq; exact Or.inl rfl) ⟨rfl, rfl⟩ (fun _ => rfl) ?_
      refine rhF.goto (pc := 143) 119 dX12_goOn_143 (by decide) ?_
      exact ih _ _
set_option maxHeartbeats 4000000 in
set_option maxRecDepth 100000 in
theorem b_X12_goOn_156 {E : rhE} {Γ : rhG} {k199 : rhM → Nat → Option (rhM)} (hk199 : ∀ (M : rhM) (v0 : Nat), rhF E 5 3 yX12_goOn cX12_goOn none Γ (rhe1U Γ) (k199 M v0) 199 [(0, rhR v0)] [] Γ M) : ∀ (n : Nat) (M : rhM) (v0 : Nat) (v2 : Int32), rhF E 5 3 yX12_goOn cX12_goOn none Γ (rhe1U Γ) (f_X12_goOn_156 k199 Γ n M v0 v2) 156 [(0, rhR v0), (2, rhI v2)] [] Γ M := by
  intro n
  induction n with
  | zero => intro M v0 v2; rw [f_X12_goOn_156]; exact rhF.nope
  | succ n ih =>
    intro M v0 v2
    rw [f_X12_goOn_156]
    refine rhF.iload_n (pc := 156) dX12_goOn_156 1 rfl ?_
    refine rhF.aload_n (pc := 157) dX12_goOn_157 0 rfl ?_
    refine rhF.ck (fun h49 => ?_)
    refine rhF.get (pc := 158) (rhI _) dX12_goOn_158 fl_X12_256 h49 rfl ?_
    refine rhF.icmp_ge (pc := 161) 199 dX12_goOn_161 (by decide) (fun h50 => ?_) (fun h50 => ?_)
    · refine rhF.iload_n (pc := 164) dX12_goOn_164 1 rfl ?_
      refine rhF.aload_n (pc := 165) dX12_goOn_165 0 rfl ?_
      refine rhF.get (pc := 166) (rhI _) dX12_goOn_166 fl_X12_259 h49 rfl ?_
      refine rhF.bipush (pc := 169) (v := 8) dX12_goOn_169 (by decide) ?_
      refine rhF.iadd (pc := 171) dX12_goOn_171 ?_
      refine rhF.icmp_ge (pc := 172) 199 dX12_goOn_172 (by decide) (fun h51 => ?_) (fun h51 => ?_)
      · refine rhF.aload_n (pc := 175) dX12_goOn_175 0 rfl ?_
        refine rhF.aload_n (pc := 176) dX12_goOn_176 0 rfl ?_
        refine rhF.get (pc := 177) (rhJ _) dX12_goOn_177 fl_X12_273 h49 rfl ?_
        refine rhF.bipush (pc := 180) (v := 8) dX12_goOn_180 (by decide) ?_
        refine rhF.lshl (pc := 182) dX12_goOn_182 ?_
        refine rhF.aload_n (pc := 183) dX12_goOn_183 0 rfl ?_
        refine rhF.iload_n (pc := 184) dX12_goOn_184 1 rfl ?_
        refine rhF.callV (pc := 185) (ci := 12) (embc := rhe0I _ _) [rhI _] dX12_goOn_185 ml_X12_262 mv_X12_sign ⟨_, rfl, rfl⟩ h49 (c_X12_sign _ _ _ _ _) (by decide) (by decide) rfl (Nat.le_of_ble_eq_true rfl) (fun r52 _ => ?_)
        refine rhF.i2l (pc := 188) dX12_goOn_188 ?_
        refine rhF.lor (pc := 189) dX12_goOn_189 ?_
        refine rhF.putl (pc := 190) dX12_goOn_190 fl_X12_273 h49 (fun q hq => by cases hq; exact Or.inl rfl) ⟨rfl, rfl⟩ (fun _ => rfl) ?_
        refine rhF.iinc (pc := 193) (L' := [(2, rhI _), (0, rhR _)]) dX12_goOn_193 1 rfl rfl (by decide) rfl ?_
        refine rhF.goto (pc := 196) 156 dX12_goOn_196 (by decide) ?_
        refine rhF.sub [1, 0] rfl ?_
        exact ih _ _ _
      · refine rhF.sub [0] rfl ?_
        exact hk199 _ _
    · refine rhF.sub [0] rfl ?_
      exact hk199 _ _
set_option maxHeartbeats 4000000 in
set_option maxRecDepth 100000 in
theorem b_X12_goOn_233 {E : rhE} {Γ : rhG} : ∀ (M : rhM) (s0 : Nat) (s1 : Int32), rhF E 5 3 yX12_goOn cX12_goOn none Γ (rhe1U Γ) (f_X12_goOn_233 Γ M s0 s1) 233 [] [rhI s1, rhR s0] Γ M := by
  intro M s0 s1
  rw [f_X12_goOn_233]
  refine rhF.ck (fun h57 => ?_)
  refine rhF.puti (pc := 233) dX12_goOn_233 fl_X12_266 h57 (fun q hq => by cases hq; exact Or.inl rfl) ⟨rfl, rfl⟩ (fun _ => rfl) ?_
  refine rhF.goto (pc := 236) 377 dX12_goOn_236 (by decide) ?_
  exact rhF.vret (pc := 377) dX12_goOn_377 rfl rfl
set_option maxHeartbeats 4000000 in
set_option maxRecDepth 100000 in
theorem b_X12_goOn_199 {E : rhE} {Γ : rhG} : ∀ (M : rhM) (v0 : Nat), rhF E 5 3 yX12_goOn cX12_goOn none Γ (rhe1U Γ) (f_X12_goOn_199 Γ M v0) 199 [(0, rhR v0)] [] Γ M := by
  intro M v0
  rw [f_X12_goOn_199]
  refine rhF.aload_n (pc := 199) dX12_goOn_199 0 rfl ?_
  refine rhF.aload_n (pc := 200) dX12_goOn_200 0 rfl ?_
  refine rhF.ck (fun h55 => ?_)
  refine rhF.get (pc := 201) (rhI _) dX12_goOn_201 fl_X12_256 h55 rfl ?_
  refine rhF.aload_n (pc := 204) dX12_goOn_204 0 rfl ?_
  refine rhF.get (pc := 205) (rhI _) dX12_goOn_205 fl_X12_259 h55 rfl ?_
  refine rhF.isub (pc := 208) dX12_goOn_208 ?_
  refine rhF.bipush (pc := 209) (v := 8) dX12_goOn_209 (by decide) ?_
  refine rhF.icmp_le (pc := 211) 218 dX12_goOn_211 (by decide) (fun h56 => ?_) (fun h56 => ?_)
  · refine rhF.iconst (pc := 214) (v := 1) dX12_goOn_214 (by decide) ?_
    refine rhF.goto (pc := 215) 233 dX12_goOn_215 (by decide) ?_
    refine rhF.sub [] rfl ?_
    exact (b_X12_goOn_233) _ _ _
  · refine rhF.aload_n (pc := 218) dX12_goOn_218 0 rfl ?_
    refine rhF.get (pc := 219) (rhJ _) dX12_goOn_219 fl_X12_273 h55 rfl ?_
    refine rhF.callS (pc := 222) (embc := rhe0I _ _) [rhJ _] dX12_goOn_222 ml_X12_277 ms_X12_isKept (c_X12_isKept _ _ _ _) (by decide) (by decide) rfl (Nat.le_of_ble_eq_true rfl) (fun r59 _ => ?_)
    refine rhF.if_eq (pc := 225) 232 dX12_goOn_225 (by decide) (fun h60 => ?_) (fun h60 => ?_)
    · refine rhF.iconst (pc := 232) (v := 2) dX12_goOn_232 (by decide) ?_
      refine rhF.sub [] rfl ?_
      exact (b_X12_goOn_233) _ _ _
    · refine rhF.iconst (pc := 228) (v := 3) dX12_goOn_228 (by decide) ?_
      refine rhF.goto (pc := 229) 233 dX12_goOn_229 (by decide) ?_
      refine rhF.sub [] rfl ?_
      exact (b_X12_goOn_233) _ _ _
set_option maxHeartbeats 4000000 in
set_option maxRecDepth 100000 in
theorem b_X12_goOn_146 {E : rhE} {Γ : rhG} : ∀ (M : rhM) (v0 : Nat), rhF E 5 3 yX12_goOn cX12_goOn none Γ (rhe1U Γ) (f_X12_goOn_146 Γ M v0) 146 [(0, rhR v0)] [] Γ M := by
  intro M v0
  rw [f_X12_goOn_146]
  refine rhF.aload_n (pc := 146) dX12_goOn_146 0 rfl ?_
  refine rhF.lconst (pc := 147) (v := 0) dX12_goOn_147 (by decide) ?_
  refine rhF.ck (fun h46 => ?_)
  refine rhF.putl (pc := 148) dX12_goOn_148 fl_X12_273 h46 (fun q hq => by cases hq; exact Or.inl rfl) ⟨rfl, rfl⟩ (fun _ => rfl) ?_
  refine rhF.aload_n (pc := 151) dX12_goOn_151 0 rfl ?_
  refine rhF.get (pc := 152) (rhI _) dX12_goOn_152 fl_X12_259 h46 rfl ?_
  refine rhF.istore_n (pc := 155) (L' := [(2, rhI _), (0, rhR _)]) dX12_goOn_155 (by decide) rfl ?_
  refine rhF.sub [1, 0] rfl ?_
  exact (b_X12_goOn_156 (b_X12_goOn_199) rhFU) _ _ _
set_option maxHeartbeats 4000000 in
set_option maxRecDepth 100000 in
theorem b_X12_goOn_58 {E : rhE} {Γ : rhG} : ∀ (M : rhM) (v0 : Nat), rhF E 5 3 yX12_goOn cX12_goOn none Γ (rhe1U Γ) (f_X12_goOn_58 Γ M v0) 58 [(0, rhR v0)] [] Γ M := by
  intro M v0
  rw [f_X12_goOn_58]
  refine rhF.aload_n (pc := 58) dX12_goOn_58 0 rfl ?_
  refine rhF.aload_n (pc := 59) dX12_goOn_59 0 rfl ?_
  refine rhF.ck (fun h11 => ?_)
  refine rhF.get (pc := 60) (rhI _) dX12_goOn_60 fl_X12_259 h11 rfl ?_
  refine rhF.callV (pc := 63) (ci := 12) (embc := rhe0I _ _) [rhI _] dX12_goOn_63 ml_X12_262 mv_X12_sign ⟨_, rfl, rfl⟩ h11 (c_X12_sign _ _ _ _ _) (by decide) (by decide) rfl (Nat.le_of_ble_eq_true rfl) (fun r12 _ => ?_)
  refine rhF.istore_n (pc := 66) (L' := [(1, rhI _), (0, rhR _)]) dX12_goOn_66 (by decide) rfl ?_
  refine rhF.aload_n (pc := 67) dX12_goOn_67 1 rfl ?_
  refine rhF.aload_n (pc := 68) dX12_goOn_68 1 rfl ?_
  refine rhF.get (pc := 69) (rhI _) dX12_goOn_69 fl_X12_259 h11 rfl ?_
  refine rhF.iconst (pc := 72) (v := 1) dX12_goOn_72 (by decide) ?_
  refine rhF.iadd (pc := 73) dX12_goOn_73 ?_
  refine rhF.puti (pc := 74) dX12_goOn_74 fl_X12_256 h11 (fun q hq => by cases hq; exact Or.inl rfl) ⟨rfl, rfl⟩ (fun _ => rfl) ?_
  refine rhF.aload_n (pc := 77) dX12_goOn_77 1 rfl ?_
  refine rhF.get (pc := 78) (rhI _) dX12_goOn_78 fl_X12_259 h11 rfl ?_
  refine rhF.aload_n (pc := 81) dX12_goOn_81 1 rfl ?_
  refine rhF.get (pc := 82) (rhI _) dX12_goOn_82 fl_X12_214 h11 rfl ?_
  refine rhF.icmp_lt (pc := 85) 112 dX12_goOn_85 (by decide) (fun h14 => ?_) (fun h14 => ?_)
  · refine rhF.iload_n (pc := 112) dX12_goOn_112 0 rfl ?_
    refine rhF.callS (pc := 113) (embc := rhe0I _ _) [rhI _] dX12_goOn_113 ml_X12_269 ms_X12_isLetter (c_X12_isLetter _ _ _ _) (by decide) (by decide) rfl (Nat.le_of_ble_eq_true rfl) (fun r15 _ => ?_)
    refine rhF.if_eq (pc := 116) 239 dX12_goOn_116 (by decide) (fun h16 => ?_) (fun h16 => ?_)
    · refine rhF.iload_n (pc := 239) dX12_goOn_239 0 rfl ?_
      refine rhF.callS (pc := 240) (embc := rhe0I _ _) [rhI _] dX12_goOn_240 ml_X12_281 ms_X12_isDigit (c_X12_isDigit _ _ _ _) (by decide) (by decide) rfl (Nat.le_of_ble_eq_true rfl) (fun r17 _ => ?_)
      refine rhF.if_eq (pc := 243) 361 dX12_goOn_243 (by decide) (fun h18 => ?_) (fun h18 => ?_)
      · refine rhF.aload_n (pc := 361) dX12_goOn_361 1 rfl ?_
        refine rhF.iload_n (pc := 362) dX12_goOn_362 0 rfl ?_
        refine rhF.callS (pc := 363) (embc := rhe0I _ _) [rhI _] dX12_goOn_363 ml_X12_287 ms_X12_isSign (c_X12_isSign _ _ _ _) (by decide) (by decide) rfl (Nat.le_of_ble_eq_true rfl) (fun r19 _ => ?_)
        refine rhF.if_eq (pc := 366) 373 dX12_goOn_366 (by decide) (fun h20 => ?_) (fun h20 => ?_)
        · refine rhF.iconst (pc := 373) (v := 1) dX12_goOn_373 (by decide) ?_
          refine rhF.sub [] rfl ?_
          exact (b_X12_goOn_374) _ _ _
        · refine rhF.iconst (pc := 369) (v := 5) dX12_goOn_369 (by decide) ?_
          refine rhF.goto (pc := 370) 374 dX12_goOn_370 (by decide) ?_
          refine rhF.sub [] rfl ?_
          exact (b_X12_goOn_374) _ _ _
      · refine rhF.aload_n (pc := 246) dX12_goOn_246 1 rfl ?_
        refine rhF.iconst (pc := 247) (v := 0) dX12_goOn_247 (by decide) ?_
        refine rhF.puti (pc := 248) dX12_goOn_248 fl_X12_284 h11 (fun q hq => by cases hq; exact Or.inl rfl) ⟨rfl, rfl⟩ (fun _ => rfl) ?_
        refine rhF.aload_n (pc := 251) dX12_goOn_251 1 rfl ?_
        refine rhF.aload_n (pc := 252) dX12_goOn_252 1 rfl ?_
        refine rhF.get (pc := 253) (rhI _) dX12_goOn_253 fl_X12_259 h11 rfl ?_
        refine rhF.puti (pc := 256) dX12_goOn_256 fl_X12_256 h11 (fun q hq => by cases hq; exact Or.inl rfl) ⟨rfl, rfl⟩ (fun _ => rfl) ?_
        refine rhF.sub [1] rfl ?_
        exact (b_X12_goOn_259 (b_X12_goOn_322) rhFU) _ _
    · refine rhF.sub [1] rfl ?_
      exact (b_X12_goOn_119 (b_X12_goOn_146) rhFU) _ _
  · refine rhF.aload_n (pc := 88) dX12_goOn_88 1 rfl ?_
    refine rhF.iconst (pc := 89) (v := 0) dX12_goOn_89 (by decide) ?_
    refine rhF.puti (pc := 90) dX12_goOn_90 fl_X12_266 h11 (fun q hq => by cases hq; exact Or.inl rfl) ⟨rfl, rfl⟩ (fun _ => rfl) ?_
    refine rhF.aload_n (pc := 93) dX12_goOn_93 1 rfl ?_
    refine rhF.aload_n (pc := 94) dX12_goOn_94 1 rfl ?_
    refine rhF.get (pc := 95) (rhI _) dX12_goOn_95 fl_X12_214 h11 rfl ?_
    refine rhF.puti (pc := 98) dX12_goOn_98 fl_X12_259 h11 (fun q hq => by cases hq; exact Or.inl rfl) ⟨rfl, rfl⟩ (fun _ => rfl) ?_
    refine rhF.aload_n (pc := 101) dX12_goOn_101 1 rfl ?_
    refine rhF.aload_n (pc := 102) dX12_goOn_102 1 rfl ?_
    refine rhF.get (pc := 103) (rhI _) dX12_goOn_103 fl_X12_214 h11 rfl ?_
    refine rhF.puti (pc := 106) dX12_goOn_106 fl_X12_256 h11 (fun q hq => by cases hq; exact Or.inl rfl) ⟨rfl, rfl⟩ (fun _ => rfl) ?_
    refine rhF.goto (pc := 109) 377 dX12_goOn_109 (by decide) ?_
    exact rhF.vret (pc := 377) dX12_goOn_377 rfl rfl
set_option maxHeartbeats 4000000 in
set_option maxRecDepth 100000 in
theorem b_X12_goOn {E : rhE} {Γ : rhG} : ∀ (M : rhM) (v0 : Nat), rhF E 5 3 yX12_goOn cX12_goOn none Γ (rhe1U Γ) (f_X12_goOn Γ M v0) 0 [(0, rhR v0)] [] Γ M := by
  intro M v0
  rw [f_X12_goOn]
  refine rhF.aload_n (pc := 0) dX12_goOn_0 0 rfl ?_
  refine rhF.aload_n (pc := 1) dX12_goOn_1 0 rfl ?_
  refine rhF.ck (fun h1 => ?_)
  refine rhF.get (pc := 2) (rhI _) dX12_goOn_2 fl_X12_256 h1 rfl ?_
  refine rhF.puti (pc := 5) dX12_goOn_5 fl_X12_259 h1 (fun q hq => by cases hq; exact Or.inl rfl) ⟨rfl, rfl⟩ (fun _ => rfl) ?_
  exact (b_X12_goOn_8 (b_X12_goOn_58) rhFU) _ _
theorem c_X12_goOn (E : rhE) (Γ : rhG) (M : rhM) (v0 : Nat) : ∀ a, f_X12_goOn Γ M v0 = some a → rhC E 5 yX12_goOn cX12_goOn 3 none [rhR v0] Γ M ((rhe1U Γ) a) := rhF.met (by decide +kernel) (Nat.le_of_ble_eq_true rfl) (b_X12_goOn M v0)
def f_X12_isGood (Γ : rhG) (M : rhM) (v0 : Nat) : Option (Int32) :=
  rhck (Γ.2.2.1 v0 = 13) <|
  if (M.1 v0 4) = 0 then
    (some 1)
  else
    some 0
set_option maxHeartbeats 4000000 in
set_option maxRecDepth 100000 in
theorem b_X12_isGood {E : rhE} {Γ : rhG} {M : rhM} : ∀ (v0 : Nat), rhF E 1 1 yX12_isGood cX12_isGood (some .boolean) Γ (rhe0I Γ M) (f_X12_isGood Γ M v0) 0 [(0, rhR v0)] [] Γ M := by
  intro v0
  rw [f_X12_isGood]
  refine rhF.aload_n (pc := 0) dX12_isGood_0 0 rfl ?_
  refine rhF.ck (fun h1 => ?_)
  refine rhF.get (pc := 1) (rhI _) dX12_isGood_1 fl_X12_217 h1 rfl ?_
  refine rhF.if_ne (pc := 4) 11 dX12_isGood_4 (by decide) (fun h2 => ?_) (fun h2 => ?_)
  · refine rhF.iconst (pc := 7) (v := 1) dX12_isGood_7 (by decide) ?_
    refine rhF.goto (pc := 8) 12 dX12_isGood_8 (by decide) ?_
    exact rhF.zret (pc := 12) dX12_isGood_12 rfl rfl rfl
  · refine rhF.iconst (pc := 11) (v := 0) dX12_isGood_11 (by decide) ?_
    exact rhF.zret (pc := 12) dX12_isGood_12 rfl rfl rfl
theorem c_X12_isGood (E : rhE) (Γ : rhG) (M : rhM) (v0 : Nat) : ∀ a, f_X12_isGood Γ M v0 = some a → rhC E 1 yX12_isGood cX12_isGood 1 (some .boolean) [rhR v0] Γ M ((rhe0I Γ M) a) := rhF.met (by decide +kernel) (Nat.le_of_ble_eq_true rfl) (b_X12_isGood v0)
def f_X12_emit (Γ : rhG) (M : rhM) (v0 : Nat) (v1 : Int32) (v2 : Int32) : Option (rhM) :=
  rhck (Γ.2.2.1 v0 = 13) <|
  rhck (Γ.2.2.1 (M.2.2 v0 29) = 15) <|
  rhck (0 ≤ (M.1 v0 36).toInt ∧ (M.1 v0 36).toInt < (Γ.2.2.2 (M.2.2 v0 29) : Nat)) <|
  let M4 := rhsi M (M.2.2 v0 29) (M.1 v0 36 : Int32).toNatClampNeg v1
  rhck (Γ.2.2.1 (M.2.2 v0 30) = 15) <|
  rhck (0 ≤ (M4.1 v0 36).toInt ∧ (M4.1 v0 36).toInt < (Γ.2.2.2 (M.2.2 v0 30) : Nat)) <|
  let M7 := rhsi M4 (M.2.2 v0 30) (M4.1 v0 36 : Int32).toNatClampNeg v2
  let M8 := rhsi M7 v0 36 ((M7.1 v0 36) + 1)
  some M8
set_option maxHeartbeats 4000000 in
set_option maxRecDepth 100000 in
theorem b_X12_emit {E : rhE} {Γ : rhG} : ∀ (M : rhM) (v0 : Nat) (v1 : Int32) (v2 : Int32), rhF E 1 3 yX12_emit cX12_emit none Γ (rhe1U Γ) (f_X12_emit Γ M v0 v1 v2) 0 [(0, rhR v0), (1, rhI v1), (2, rhI v2)] [] Γ M := by
  intro M v0 v1 v2
  rw [f_X12_emit]
  refine rhF.aload_n (pc := 0) dX12_emit_0 0 rfl ?_
  refine rhF.ck (fun h1 => ?_)
  refine rhF.get (pc := 1) (rhR _) dX12_emit_1 fl_X12_77 h1 rfl ?_
  refine rhF.aload_n (pc := 4) dX12_emit_4 0 rfl ?_
  refine rhF.get (pc := 5) (rhI _) dX12_emit_5 fl_X12_321 h1 rfl ?_
  refine rhF.iload_n (pc := 8) dX12_emit_8 1 rfl ?_
  refine rhF.ck (fun h2 => ?_)
  refine rhF.ck (fun h3 => ?_)
  refine rhF.iast (pc := 9) dX12_emit_9 h2 h3 ?_
  refine rhF.aload_n (pc := 10) dX12_emit_10 0 rfl ?_
  refine rhF.get (pc := 11) (rhR _) dX12_emit_11 fl_X12_80 h1 rfl ?_
  refine rhF.aload_n (pc := 14) dX12_emit_14 0 rfl ?_
  refine rhF.get (pc := 15) (rhI _) dX12_emit_15 fl_X12_321 h1 rfl ?_
  refine rhF.iload_n (pc := 18) dX12_emit_18 2 rfl ?_
  refine rhF.ck (fun h5 => ?_)
  refine rhF.ck (fun h6 => ?_)
  refine rhF.iast (pc := 19) dX12_emit_19 h5 h6 ?_
  refine rhF.aload_n (pc := 20) dX12_emit_20 0 rfl ?_
  refine rhF.dupr (pc := 21) dX12_emit_21 ?_
  refine rhF.get (pc := 22) (rhI _) dX12_emit_22 fl_X12_321 h1 rfl ?_
  refine rhF.iconst (pc := 25) (v := 1) dX12_emit_25 (by decide) ?_
  refine rhF.iadd (pc := 26) dX12_emit_26 ?_
  refine rhF.puti (pc := 27) dX12_emit_27 fl_X12_321 h1 (fun q hq => by cases hq; exact Or.inl rfl) ⟨rfl, rfl⟩ (fun _ => rfl) ?_
  exact rhF.vret (pc := 30) dX12_emit_30 rfl rfl
theorem c_X12_emit (E : rhE) (Γ : rhG) (M : rhM) (v0 : Nat) (v1 : Int32) (v2 : Int32) : ∀ a, f_X12_emit Γ M v0 v1 v2 = some a → rhC E 1 yX12_emit cX12_emit 3 none [rhR v0, rhI v1, rhI v2] Γ M ((rhe1U Γ) a) := rhF.met (by decide +kernel) (Nat.le_of_ble_eq_true rfl) (b_X12_emit M v0 v1 v2)
def f_X12_isCompared_28 (k7 : Nat → Int32 → Option (Int32)) (Γ : rhG) (M : rhM) (v0 : Nat) (v1 : Int32) : Option (Int32) :=
  let x7 : Int32 := v1 + (-1)
  k7 v0 x7
def f_X12_isCompared_7 (k34 : Nat → Int32 → Option (Int32)) (Γ : rhG) (M : rhM) : Nat → Nat → Int32 → Option (Int32)
  | 0, _, _ => none
  | n + 1, v0, v1 =>
    rhck (Γ.2.2.1 v0 = 13) <|
    rhck (Γ.2.2.1 (M.2.2 v0 31) = 15) <|
    rhck (0 ≤ (v1).toInt ∧ (v1).toInt < (Γ.2.2.2 (M.2.2 v0 31) : Nat)) <|
    if (M.1 (M.2.2 v0 31) v1.toNatClampNeg) = 5 then
      (f_X12_isCompared_28 (f_X12_isCompared_7 k34 Γ M n) Γ M v0 v1)
    else
      if (M.1 (M.2.2 v0 31) v1.toNatClampNeg) = 6 then
        (f_X12_isCompared_28 (f_X12_isCompared_7 k34 Γ M n) Γ M v0 v1)
      else
        k34 v0 v1
def f_X12_isCompared_34 (Γ : rhG) (M : rhM) (v0 : Nat) (v1 : Int32) : Option (Int32) :=
  rhck (Γ.2.2.1 v0 = 13) <|
  rhck (Γ.2.2.1 (M.2.2 v0 31) = 15) <|
  rhck (0 ≤ (v1).toInt ∧ (v1).toInt < (Γ.2.2.2 (M.2.2 v0 31) : Nat)) <|
  if (M.1 (M.2.2 v0 31) v1.toNatClampNeg) = 4 then
    (some 1)
  else
    some 0
def f_X12_isCompared (Γ : rhG) (M : rhM) (v0 : Nat) : Option (Int32) :=
  rhck (Γ.2.2.1 v0 = 13) <|
  let x2 := (M.1 v0 38) - 1
  f_X12_isCompared_7 (f_X12_isCompared_34 Γ M) Γ M rhFU v0 x2
set_option maxHeartbeats 4000000 in
set_option maxRecDepth 100000 in
theorem b_X12_isCompared_28 {E : rhE} {Γ : rhG} {M : rhM} {k7 : Nat → Int32 → Option (Int32)} (hk7 : ∀ (v0 : Nat) (v1 : Int32), rhF E 1 2 yX12_isCompared cX12_isCompared (some .boolean) Γ (rhe0I Γ M) (k7 v0 v1) 7 [(0, rhR v0), (1, rhI v1)] [] Γ M) : ∀ (v0 : Nat) (v1 : Int32), rhF E 1 2 yX12_isCompared cX12_isCompared (some .boolean) Γ (rhe0I Γ M) (f_X12_isCompared_28 k7 Γ M v0 v1) 28 [(0, rhR v0), (1, rhI v1)] [] Γ M := by
  intro v0 v1
  rw [f_X12_isCompared_28]
  refine rhF.iinc (pc := 28) (L' := [(1, rhI _), (0, rhR _)]) dX12_isCompared_28 1 rfl rfl (by decide) rfl ?_
  refine rhF.goto (pc := 31) 7 dX12_isCompared_31 (by decide) ?_
  refine rhF.sub [1, 0] rfl ?_
  exact hk7 _ _
set_option maxHeartbeats 4000000 in
set_option maxRecDepth 100000 in
theorem b_X12_isCompared_7 {E : rhE} {Γ : rhG} {M : rhM} {k34 : Nat → Int32 → Option (Int32)} (hk34 : ∀ (v0 : Nat) (v1 : Int32), rhF E 1 2 yX12_isCompared cX12_isCompared (some .boolean) Γ (rhe0I Γ M) (k34 v0 v1) 34 [(0, rhR v0), (1, rhI v1)] [] Γ M) : ∀ (n : Nat) (v0 : Nat) (v1 : Int32), rhF E 1 2 yX12_isCompared cX12_isCompared (some .boolean) Γ (rhe0I Γ M) (f_X12_isCompared_7 k34 Γ M n v0 v1) 7 [(0, rhR v0), (1, rhI v1)] [] Γ M := by
  intro n
  induction n with
  | zero => intro v0 v1; rw [f_X12_isCompared_7]; exact rhF.nope
  | succ n ih =>
    intro v0 v1
    rw [f_X12_isCompared_7]
    refine rhF.aload_n (pc := 7) dX12_isCompared_7 0 rfl ?_
    refine rhF.ck (fun h3 => ?_)
    refine rhF.get (pc := 8) (rhR _) dX12_isCompared_8 fl_X12_83 h3 rfl ?_
    refine rhF.iload_n (pc := 11) dX12_isCompared_11 1 rfl ?_
    refine rhF.ck (fun h4 => ?_)
    refine rhF.ck (fun h5 => ?_)
    refine rhF.iald (pc := 12) dX12_isCompared_12 h4 h5 ?_
    refine rhF.iconst (pc := 13) (v := 5) dX12_isCompared_13 (by decide) ?_
    refine rhF.icmp_eq (pc := 14) 28 dX12_isCompared_14 (by decide) (fun h6 => ?_) (fun h6 => ?_)
    · exact (b_X12_isCompared_28 ih) _ _
    · refine rhF.aload_n (pc := 17) dX12_isCompared_17 0 rfl ?_
      refine rhF.get (pc := 18) (rhR _) dX12_isCompared_18 fl_X12_83 h3 rfl ?_
      refine rhF.iload_n (pc := 21) dX12_isCompared_21 1 rfl ?_
      refine rhF.iald (pc := 22) dX12_isCompared_22 h4 h5 ?_
      refine rhF.bipush (pc := 23) (v := 6) dX12_isCompared_23 (by decide) ?_
      refine rhF.icmp_ne (pc := 25) 34 dX12_isCompared_25 (by decide) (fun h8 => ?_) (fun h8 => ?_)
      · exact (b_X12_isCompared_28 ih) _ _
      · exact hk34 _ _
set_option maxHeartbeats 4000000 in
set_option maxRecDepth 100000 in
theorem b_X12_isCompared_34 {E : rhE} {Γ : rhG} {M : rhM} : ∀ (v0 : Nat) (v1 : Int32), rhF E 1 2 yX12_isCompared cX12_isCompared (some .boolean) Γ (rhe0I Γ M) (f_X12_isCompared_34 Γ M v0 v1) 34 [(0, rhR v0), (1, rhI v1)] [] Γ M := by
  intro v0 v1
  rw [f_X12_isCompared_34]
  refine rhF.aload_n (pc := 34) dX12_isCompared_34 0 rfl ?_
  refine rhF.ck (fun h9 => ?_)
  refine rhF.get (pc := 35) (rhR _) dX12_isCompared_35 fl_X12_83 h9 rfl ?_
  refine rhF.iload_n (pc := 38) dX12_isCompared_38 1 rfl ?_
  refine rhF.ck (fun h10 => ?_)
  refine rhF.ck (fun h11 => ?_)
  refine rhF.iald (pc := 39) dX12_isCompared_39 h10 h11 ?_
  refine rhF.iconst (pc := 40) (v := 4) dX12_isCompared_40 (by decide) ?_
  refine rhF.icmp_ne (pc := 41) 48 dX12_isCompared_41 (by decide) (fun h12 => ?_) (fun h12 => ?_)
  · refine rhF.iconst (pc := 44) (v := 1) dX12_isCompared_44 (by decide) ?_
    refine rhF.goto (pc := 45) 49 dX12_isCompared_45 (by decide) ?_
    exact rhF.zret (pc := 49) dX12_isCompared_49 rfl rfl rfl
  · refine rhF.iconst (pc := 48) (v := 0) dX12_isCompared_48 (by decide) ?_
    exact rhF.zret (pc := 49) dX12_isCompared_49 rfl rfl rfl
set_option maxHeartbeats 4000000 in
set_option maxRecDepth 100000 in
theorem b_X12_isCompared {E : rhE} {Γ : rhG} {M : rhM} : ∀ (v0 : Nat), rhF E 1 2 yX12_isCompared cX12_isCompared (some .boolean) Γ (rhe0I Γ M) (f_X12_isCompared Γ M v0) 0 [(0, rhR v0)] [] Γ M := by
  intro v0
  rw [f_X12_isCompared]
  refine rhF.aload_n (pc := 0) dX12_isCompared_0 0 rfl ?_
  refine rhF.ck (fun h1 => ?_)
  refine rhF.get (pc := 1) (rhI _) dX12_isCompared_1 fl_X12_385 h1 rfl ?_
  refine rhF.iconst (pc := 4) (v := 1) dX12_isCompared_4 (by decide) ?_
  refine rhF.isub (pc := 5) dX12_isCompared_5 ?_
  refine rhF.istore_n (pc := 6) (L' := [(1, rhI _), (0, rhR _)]) dX12_isCompared_6 (by decide) rfl ?_
  refine rhF.sub [1, 0] rfl ?_
  exact (b_X12_isCompared_7 (b_X12_isCompared_34) rhFU) _ _
theorem c_X12_isCompared (E : rhE) (Γ : rhG) (M : rhM) (v0 : Nat) : ∀ a, f_X12_isCompared Γ M v0 = some a → rhC E 1 yX12_isCompared cX12_isCompared 2 (some .boolean) [rhR v0] Γ M ((rhe0I Γ M) a) := rhF.met (by decide +kernel) (Nat.le_of_ble_eq_true rfl) (b_X12_isCompared v0)
def f_X12_fails (Γ : rhG) (M : rhM) (v0 : Nat) (v1 : Int32) (v2 : Int32) : Option (rhM) :=
  rhck (Γ.2.2.1 v0 = 13) <|
  if 0 < (M.1 v0 4) then
    (some M)
  else
    let M3 := rhsi M v0 4 v1
    let M4 := rhsi M3 v0 5 v2
    some M4
set_option maxHeartbeats 4000000 in
set_option maxRecDepth 100000 in
theorem b_X12_fails {E : rhE} {Γ : rhG} : ∀ (M : rhM) (v0 : Nat) (v1 : Int32) (v2 : Int32), rhF E 1 3 yX12_fails cX12_fails none Γ (rhe1U Γ) (f_X12_fails Γ M v0 v1 v2) 0 [(0, rhR v0), (1, rhI v1), (2, rhI v2)] [] Γ M := by
  intro M v0 v1 v2
  rw [f_X12_fails]
  refine rhF.aload_n (pc := 0) dX12_fails_0 0 rfl ?_
  refine rhF.ck (fun h1 => ?_)
  refine rhF.get (pc := 1) (rhI _) dX12_fails_1 fl_X12_217 h1 rfl ?_
  refine rhF.if_le (pc := 4) 8 dX12_fails_4 (by decide) (fun h2 => ?_) (fun h2 => ?_)
  · exact rhF.vret (pc := 7) dX12_fails_7 rfl rfl
  · refine rhF.aload_n (pc := 8) dX12_fails_8 0 rfl ?_
    refine rhF.iload_n (pc := 9) dX12_fails_9 1 rfl ?_
    refine rhF.puti (pc := 10) dX12_fails_10 fl_X12_217 h1 (fun q hq => by cases hq; exact Or.inl rfl) ⟨rfl, rfl⟩ (fun _ => rfl) ?_
    refine rhF.aload_n (pc := 13) dX12_fails_13 0 rfl ?_
    refine rhF.iload_n (pc := 14) dX12_fails_14 2 rfl ?_
    refine rhF.puti (pc := 15) dX12_fails_15 fl_X12_16 h1 (fun q hq => by cases hq; exact Or.inl rfl) ⟨rfl, rfl⟩ (fun _ => rfl) ?_
    exact rhF.vret (pc := 18) dX12_fails_18 rfl rfl
theorem c_X12_fails (E : rhE) (Γ : rhG) (M : rhM) (v0 : Nat) (v1 : Int32) (v2 : Int32) : ∀ a, f_X12_fails Γ M v0 v1 v2 = some a → rhC E 1 yX12_fails cX12_fails 3 none [rhR v0, rhI v1, rhI v2] Γ M ((rhe1U Γ) a) := rhF.met (by decide +kernel) (Nat.le_of_ble_eq_true rfl) (b_X12_fails M v0 v1 v2)
def f_X12_misplaced_14 (Γ : rhG) (M : rhM) (v0 : Nat) (s0 : Nat) (s1 : Int32) : Option (rhM) :=
  rhck (Γ.2.2.1 v0 = 13) <|
  rhck (Γ.2.2.1 s0 = 13) <|
  (f_X12_fails Γ M s0 s1 (M.1 v0 6)).bind fun r5 =>
  some r5
def f_X12_misplaced (Γ : rhG) (M : rhM) (v0 : Nat) : Option (rhM) :=
  rhck (Γ.2.2.1 v0 = 13) <|
  if (M.1 v0 8) = 1 then
    (f_X12_misplaced_14 Γ M v0 v0 1)
  else
    f_X12_misplaced_14 Γ M v0 v0 2
set_option maxHeartbeats 4000000 in
set_option maxRecDepth 100000 in
theorem b_X12_misplaced_14 {E : rhE} {Γ : rhG} : ∀ (M : rhM) (v0 : Nat) (s0 : Nat) (s1 : Int32), rhF E 5 1 yX12_misplaced cX12_misplaced none Γ (rhe1U Γ) (f_X12_misplaced_14 Γ M v0 s0 s1) 14 [(0, rhR v0)] [rhI s1, rhR s0] Γ M := by
  intro M v0 s0 s1
  rw [f_X12_misplaced_14]
  refine rhF.aload_n (pc := 14) dX12_misplaced_14 0 rfl ?_
  refine rhF.ck (fun h3 => ?_)
  refine rhF.get (pc := 15) (rhI _) dX12_misplaced_15 fl_X12_259 h3 rfl ?_
  refine rhF.ck (fun h4 => ?_)
  refine rhF.callV (pc := 18) (ci := 12) (embc := rhe1U _) [rhI _, rhI _] dX12_misplaced_18 ml_X12_290 mv_X12_fails ⟨_, rfl, rfl⟩ h4 (c_X12_fails _ _ _ _ _ _) (by decide) (by decide) rfl (Nat.le_of_ble_eq_true rfl) (fun r5 _ => ?_)
  exact rhF.vret (pc := 21) dX12_misplaced_21 rfl rfl
set_option maxHeartbeats 4000000 in
set_option maxRecDepth 100000 in
theorem b_X12_misplaced {E : rhE} {Γ : rhG} : ∀ (M : rhM) (v0 : Nat), rhF E 5 1 yX12_misplaced cX12_misplaced none Γ (rhe1U Γ) (f_X12_misplaced Γ M v0) 0 [(0, rhR v0)] [] Γ M := by
  intro M v0
  rw [f_X12_misplaced]
  refine rhF.aload_n (pc := 0) dX12_misplaced_0 0 rfl ?_
  refine rhF.aload_n (pc := 1) dX12_misplaced_1 0 rfl ?_
  refine rhF.ck (fun h1 => ?_)
  refine rhF.get (pc := 2) (rhI _) dX12_misplaced_2 fl_X12_266 h1 rfl ?_
  refine rhF.iconst (pc := 5) (v := 1) dX12_misplaced_5 (by decide) ?_
  refine rhF.icmp_ne (pc := 6) 13 dX12_misplaced_6 (by decide) (fun h2 => ?_) (fun h2 => ?_)
  · refine rhF.iconst (pc := 9) (v := 1) dX12_misplaced_9 (by decide) ?_
    refine rhF.goto (pc := 10) 14 dX12_misplaced_10 (by decide) ?_
    exact (b_X12_misplaced_14) _ _ _ _
  · refine rhF.iconst (pc := 13) (v := 2) dX12_misplaced_13 (by decide) ?_
    exact (b_X12_misplaced_14) _ _ _ _
theorem c_X12_misplaced (E : rhE) (Γ : rhG) (M : rhM) (v0 : Nat) : ∀ a, f_X12_misplaced Γ M v0 = some a → rhC E 5 yX12_misplaced cX12_misplaced 1 none [rhR v0] Γ M ((rhe1U Γ) a) := rhF.met (by decide +kernel) (Nat.le_of_ble_eq_true rfl) (b_X12_misplaced M v0)
def f_X12_must (Γ : rhG) (M : rhM) (v0 : Nat) (v1 : Int32) : Option (rhM) :=
  rhck (Γ.2.2.1 v0 = 13) <|
  (f_X12_isGood Γ M v0).bind fun r2 =>
  if r2 = 0 then
    (some M)
  else
    if v1 = 0 then
      ((f_X12_misplaced Γ M v0).bind fun r5 =>
      some r5)
    else
      (f_X12_goOn Γ M v0).bind fun r6 =>
      some r6
set_option maxHeartbeats 4000000 in
set_option maxRecDepth 100000 in
theorem b_X12_must {E : rhE} {Γ : rhG} : ∀ (M : rhM) (v0 : Nat) (v1 : Int32), rhF E 6 2 yX12_must cX12_must none Γ (rhe1U Γ) (f_X12_must Γ M v0 v1) 0 [(0, rhR v0), (1, rhI v1)] [] Γ M := by
  intro M v0 v1
  rw [f_X12_must]
  refine rhF.aload_n (pc := 0) dX12_must_0 0 rfl ?_
  refine rhF.ck (fun h1 => ?_)
  refine rhF.callV (pc := 1) (ci := 12) (embc := rhe0I _ _) [] dX12_must_1 ml_X12_294 mv_X12_isGood ⟨_, rfl, rfl⟩ h1 (c_X12_isGood _ _ _ _) (by decide) (by decide) rfl (Nat.le_of_ble_eq_true rfl) (fun r2 _ => ?_)
  refine rhF.if_ne (pc := 4) 8 dX12_must_4 (by decide) (fun h3 => ?_) (fun h3 => ?_)
  · exact rhF.vret (pc := 7) dX12_must_7 rfl rfl
  · refine rhF.iload_n (pc := 8) dX12_must_8 1 rfl ?_
    refine rhF.if_eq (pc := 9) 19 dX12_must_9 (by decide) (fun h4 => ?_) (fun h4 => ?_)
    · refine rhF.aload_n (pc := 19) dX12_must_19 0 rfl ?_
      refine rhF.callV (pc := 20) (ci := 12) (embc := rhe1U _) [] dX12_must_20 ml_X12_301 mv_X12_misplaced ⟨_, rfl, rfl⟩ h1 (c_X12_misplaced _ _ _ _) (by decide) (by decide) rfl (Nat.le_of_ble_eq_true rfl) (fun r5 _ => ?_)
      exact rhF.vret (pc := 23) dX12_must_23 rfl rfl
    · refine rhF.aload_n (pc := 12) dX12_must_12 0 rfl ?_
      refine rhF.callV (pc := 13) (ci := 12) (embc := rhe1U _) [] dX12_must_13 ml_X12_298 mv_X12_goOn ⟨_, rfl, rfl⟩ h1 (c_X12_goOn _ _ _ _) (by decide) (by decide) rfl (Nat.le_of_ble_eq_true rfl) (fun r6 _ => ?_)
      refine rhF.goto (pc := 16) 23 dX12_must_16 (by decide) ?_
      exact rhF.vret (pc := 23) dX12_must_23 rfl rfl
theorem c_X12_must (E : rhE) (Γ : rhG) (M : rhM) (v0 : Nat) (v1 : Int32) : ∀ a, f_X12_must Γ M v0 v1 = some a → rhC E 6 yX12_must cX12_must 2 none [rhR v0, rhI v1] Γ M ((rhe1U Γ) a) := rhF.met (by decide +kernel) (Nat.le_of_ble_eq_true rfl) (b_X12_must M v0 v1)
def f_X12_pushE (Γ : rhG) (M : rhM) (v0 : Nat) (v1 : Int32) (v2 : Int32) : Option (rhM) :=
  rhck (Γ.2.2.1 v0 = 13) <|
  rhck (Γ.2.2.1 (M.2.2 v0 31) = 15) <|
  rhck (0 ≤ (M.1 v0 38).toInt ∧ (M.1 v0 38).toInt < (Γ.2.2.2 (M.2.2 v0 31) : Nat)) <|
  let M4 := rhsi M (M.2.2 v0 31) (M.1 v0 38 : Int32).toNatClampNeg v1
  rhck (Γ.2.2.1 (M.2.2 v0 32) = 15) <|
  rhck (0 ≤ (M4.1 v0 38).toInt ∧ (M4.1 v0 38).toInt < (Γ.2.2.2 (M.2.2 v0 32) : Nat)) <|
  let M7 := rhsi M4 (M.2.2 v0 32) (M4.1 v0 38 : Int32).toNatClampNeg v2
  let M8 := rhsi M7 v0 38 ((M7.1 v0 38) + 1)
  some M8
set_option maxHeartbeats 4000000 in
set_option maxRecDepth 100000 in
theorem b_X12_pushE {E : rhE} {Γ : rhG} : ∀ (M : rhM) (v0 : Nat) (v1 : Int32) (v2 : Int32), rhF E 1 3 yX12_pushE cX12_pushE none Γ (rhe1U Γ) (f_X12_pushE Γ M v0 v1 v2) 0 [(0, rhR v0), (1, rhI v1), (2, rhI v2)] [] Γ M := by
  intro M v0 v1 v2
  rw [f_X12_pushE]
  refine rhF.aload_n (pc := 0) dX12_pushE_0 0 rfl ?_
  refine rhF.ck (fun h1 => ?_)
  refine rhF.get (pc := 1) (rhR _) dX12_pushE_1 fl_X12_83 h1 rfl ?_
  refine rhF.aload_n (pc := 4) dX12_pushE_4 0 rfl ?_
  refine rhF.get (pc := 5) (rhI _) dX12_pushE_5 fl_X12_385 h1 rfl ?_
  refine rhF.iload_n (pc := 8) dX12_pushE_8 1 rfl ?_
  refine rhF.ck (fun h2 => ?_)
  refine rhF.ck (fun h3 => ?_)
  refine rhF.iast (pc := 9) dX12_pushE_9 h2 h3 ?_
  refine rhF.aload_n (pc := 10) dX12_pushE_10 0 rfl ?_
  refine rhF.get (pc := 11) (rhR _) dX12_pushE_11 fl_X12_86 h1 rfl ?_
  refine rhF.aload_n (pc := 14) dX12_pushE_14 0 rfl ?_
  refine rhF.get (pc := 15) (rhI _) dX12_pushE_15 fl_X12_385 h1 rfl ?_
  refine rhF.iload_n (pc := 18) dX12_pushE_18 2 rfl ?_
  refine rhF.ck (fun h5 => ?_)
  refine rhF.ck (fun h6 => ?_)
  refine rhF.iast (pc := 19) dX12_pushE_19 h5 h6 ?_
  refine rhF.aload_n (pc := 20) dX12_pushE_20 0 rfl ?_
  refine rhF.dupr (pc := 21) dX12_pushE_21 ?_
  refine rhF.get (pc := 22) (rhI _) dX12_pushE_22 fl_X12_385 h1 rfl ?_
  refine rhF.iconst (pc := 25) (v := 1) dX12_pushE_25 (by decide) ?_
  refine rhF.iadd (pc := 26) dX12_pushE_26 ?_
  refine rhF.puti (pc := 27) dX12_pushE_27 fl_X12_385 h1 (fun q hq => by cases hq; exact Or.inl rfl) ⟨rfl, rfl⟩ (fun _ => rfl) ?_
  exact rhF.vret (pc := 30) dX12_pushE_30 rfl rfl
theorem c_X12_pushE (E : rhE) (Γ : rhG) (M : rhM) (v0 : Nat) (v1 : Int32) (v2 : Int32) : ∀ a, f_X12_pushE Γ M v0 v1 v2 = some a → rhC E 1 yX12_pushE cX12_pushE 3 none [rhR v0, rhI v1, rhI v2] Γ M ((rhe1U Γ) a) := rhF.met (by decide +kernel) (Nat.le_of_ble_eq_true rfl) (b_X12_pushE M v0 v1 v2)
def f_X12_isWord (Γ : rhG) (M : rhM) (v0 : Nat) (v1 : Int64) : Option (Int32) :=
  rhck (Γ.2.2.1 v0 = 13) <|
  if (M.1 v0 8) = 3 then
    (if (M.2.1 v0 10) = v1 then
      (some 1)
    else
      some 0)
  else
    some 0
set_option maxHeartbeats 4000000 in
set_option maxRecDepth 100000 in
theorem b_X12_isWord {E : rhE} {Γ : rhG} {M : rhM} : ∀ (v0 : Nat) (v1 : Int64), rhF E 1 3 yX12_isWord cX12_isWord (some .boolean) Γ (rhe0I Γ M) (f_X12_isWord Γ M v0 v1) 0 [(0, rhR v0), (1, rhJ v1)] [] Γ M := by
  intro v0 v1
  rw [f_X12_isWord]
  refine rhF.aload_n (pc := 0) dX12_isWord_0 0 rfl ?_
  refine rhF.ck (fun h1 => ?_)
  refine rhF.get (pc := 1) (rhI _) dX12_isWord_1 fl_X12_266 h1 rfl ?_
  refine rhF.iconst (pc := 4) (v := 3) dX12_isWord_4 (by decide) ?_
  refine rhF.icmp_ne (pc := 5) 21 dX12_isWord_5 (by decide) (fun h2 => ?_) (fun h2 => ?_)
  · refine rhF.aload_n (pc := 8) dX12_isWord_8 0 rfl ?_
    refine rhF.get (pc := 9) (rhJ _) dX12_isWord_9 fl_X12_273 h1 rfl ?_
    refine rhF.lload_n (pc := 12) dX12_isWord_12 1 rfl ?_
    refine rhF.lcne (pc := 13) 21 dX12_isWord_13 dX12_isWord_14 (by decide) (fun h3 => ?_) (fun h3 => ?_)
    · refine rhF.iconst (pc := 17) (v := 1) dX12_isWord_17 (by decide) ?_
      refine rhF.goto (pc := 18) 22 dX12_isWord_18 (by decide) ?_
      exact rhF.zret (pc := 22) dX12_isWord_22 rfl rfl rfl
    · refine rhF.iconst (pc := 21) (v := 0) dX12_isWord_21 (by decide) ?_
      exact rhF.zret (pc := 22) dX12_isWord_22 rfl rfl rfl
  · refine rhF.iconst (pc := 21) (v := 0) dX12_isWord_21 (by decide) ?_
    exact rhF.zret (pc := 22) dX12_isWord_22 rfl rfl rfl
theorem c_X12_isWord (E : rhE) (Γ : rhG) (M : rhM) (v0 : Nat) (v1 : Int64) : ∀ a, f_X12_isWord Γ M v0 v1 = some a → rhC E 1 yX12_isWord cX12_isWord 3 (some .boolean) [rhR v0, rhJ v1] Γ M ((rhe0I Γ M) a) := rhF.met (by decide +kernel) (Nat.le_of_ble_eq_true rfl) (b_X12_isWord v0 v1)
def f_X12_stands (Γ : rhG) (M : rhM) (v0 : Nat) (v1 : Int32) : Option (Int32) :=
  rhck (Γ.2.2.1 v0 = 13) <|
  if (M.1 v0 8) = 5 then
    ((f_X12_sign Γ M v0 (M.1 v0 6)).bind fun r3 =>
    if r3 = v1 then
      (some 1)
    else
      some 0)
  else
    some 0
set_option maxHeartbeats 4000000 in
set_option maxRecDepth 100000 in
theorem b_X12_stands {E : rhE} {Γ : rhG} {M : rhM} : ∀ (v0 : Nat) (v1 : Int32), rhF E 5 2 yX12_stands cX12_stands (some .boolean) Γ (rhe0I Γ M) (f_X12_stands Γ M v0 v1) 0 [(0, rhR v0), (1, rhI v1)] [] Γ M := by
  intro v0 v1
  rw [f_X12_stands]
  refine rhF.aload_n (pc := 0) dX12_stands_0 0 rfl ?_
  refine rhF.ck (fun h1 => ?_)
  refine rhF.get (pc := 1) (rhI _) dX12_stands_1 fl_X12_266 h1 rfl ?_
  refine rhF.iconst (pc := 4) (v := 5) dX12_stands_4 (by decide) ?_
  refine rhF.icmp_ne (pc := 5) 24 dX12_stands_5 (by decide) (fun h2 => ?_) (fun h2 => ?_)
  · refine rhF.aload_n (pc := 8) dX12_stands_8 0 rfl ?_
    refine rhF.aload_n (pc := 9) dX12_stands_9 0 rfl ?_
    refine rhF.get (pc := 10) (rhI _) dX12_stands_10 fl_X12_259 h1 rfl ?_
    refine rhF.callV (pc := 13) (ci := 12) (embc := rhe0I _ _) [rhI _] dX12_stands_13 ml_X12_262 mv_X12_sign ⟨_, rfl, rfl⟩ h1 (c_X12_sign _ _ _ _ _) (by decide) (by decide) rfl (Nat.le_of_ble_eq_true rfl) (fun r3 _ => ?_)
    refine rhF.iload_n (pc := 16) dX12_stands_16 1 rfl ?_
    refine rhF.icmp_ne (pc := 17) 24 dX12_stands_17 (by decide) (fun h4 => ?_) (fun h4 => ?_)
    · refine rhF.iconst (pc := 20) (v := 1) dX12_stands_20 (by decide) ?_
      refine rhF.goto (pc := 21) 25 dX12_stands_21 (by decide) ?_
      exact rhF.zret (pc := 25) dX12_stands_25 rfl rfl rfl
    · refine rhF.iconst (pc := 24) (v := 0) dX12_stands_24 (by decide) ?_
      exact rhF.zret (pc := 25) dX12_stands_25 rfl rfl rfl
  · refine rhF.iconst (pc := 24) (v := 0) dX12_stands_24 (by decide) ?_
    exact rhF.zret (pc := 25) dX12_stands_25 rfl rfl rfl
theorem c_X12_stands (E : rhE) (Γ : rhG) (M : rhM) (v0 : Nat) (v1 : Int32) : ∀ a, f_X12_stands Γ M v0 v1 = some a → rhC E 5 yX12_stands cX12_stands 2 (some .boolean) [rhR v0, rhI v1] Γ M ((rhe0I Γ M) a) := rhF.met (by decide +kernel) (Nat.le_of_ble_eq_true rfl) (b_X12_stands v0 v1)
def f_X12_rankHere (Γ : rhG) (M : rhM) (v0 : Nat) : Option (Int32) :=
  rhck (Γ.2.2.1 v0 = 13) <|
  (f_X12_isWord Γ M v0 ((6385252 : Int64))).bind fun r2 =>
  if r2 = 0 then
    ((f_X12_isWord Γ M v0 ((28530 : Int64))).bind fun r4 =>
    if r4 = 0 then
      ((f_X12_stands Γ M v0 (60 : Int32)).bind fun r6 =>
      if r6 = 0 then
        ((f_X12_stands Γ M v0 (62 : Int32)).bind fun r8 =>
        if r8 = 0 then
          ((f_X12_stands Γ M v0 (61 : Int32)).bind fun r10 =>
          if r10 = 0 then
            ((f_X12_stands Γ M v0 (43 : Int32)).bind fun r12 =>
            if r12 = 0 then
              ((f_X12_stands Γ M v0 (45 : Int32)).bind fun r14 =>
              if r14 = 0 then
                ((f_X12_stands Γ M v0 (42 : Int32)).bind fun r16 =>
                if r16 = 0 then
                  ((f_X12_stands Γ M v0 (47 : Int32)).bind fun r18 =>
                  if r18 = 0 then
                    (some 0)
                  else
                    some 6)
                else
                  some 6)
              else
                some 5)
            else
              some 5)
          else
            some 4)
        else
          some 4)
      else
        some 4)
    else
      some 1)
  else
    some 2
set_option maxHeartbeats 4000000 in
set_option maxRecDepth 100000 in
theorem b_X12_rankHere {E : rhE} {Γ : rhG} {M : rhM} : ∀ (v0 : Nat), rhF E 6 1 yX12_rankHere cX12_rankHere (some .int) Γ (rhe0I Γ M) (f_X12_rankHere Γ M v0) 0 [(0, rhR v0)] [] Γ M := by
  intro v0
  rw [f_X12_rankHere]
  refine rhF.aload_n (pc := 0) dX12_rankHere_0 0 rfl ?_
  refine rhF.ldc2 (pc := 1) dX12_rankHere_1 k_X12_250 ?_
  refine rhF.ck (fun h1 => ?_)
  refine rhF.callV (pc := 4) (ci := 12) (embc := rhe0I _ _) [rhJ _] dX12_rankHere_4 ml_X12_304 mv_X12_isWord ⟨_, rfl, rfl⟩ h1 (c_X12_isWord _ _ _ _ _) (by decide) (by decide) rfl (Nat.le_of_ble_eq_true rfl) (fun r2 _ => ?_)
  refine rhF.if_eq (pc := 7) 12 dX12_rankHere_7 (by decide) (fun h3 => ?_) (fun h3 => ?_)
  · refine rhF.aload_n (pc := 12) dX12_rankHere_12 0 rfl ?_
    refine rhF.ldc2 (pc := 13) dX12_rankHere_13 k_X12_252 ?_
    refine rhF.callV (pc := 16) (ci := 12) (embc := rhe0I _ _) [rhJ _] dX12_rankHere_16 ml_X12_304 mv_X12_isWord ⟨_, rfl, rfl⟩ h1 (c_X12_isWord _ _ _ _ _) (by decide) (by decide) rfl (Nat.le_of_ble_eq_true rfl) (fun r4 _ => ?_)
    refine rhF.if_eq (pc := 19) 24 dX12_rankHere_19 (by decide) (fun h5 => ?_) (fun h5 => ?_)
    · refine rhF.aload_n (pc := 24) dX12_rankHere_24 0 rfl ?_
      refine rhF.bipush (pc := 25) (v := 60) dX12_rankHere_25 (by decide) ?_
      refine rhF.callV (pc := 27) (ci := 12) (embc := rhe0I _ _) [rhI _] dX12_rankHere_27 ml_X12_315 mv_X12_stands ⟨_, rfl, rfl⟩ h1 (c_X12_stands _ _ _ _ _) (by decide) (by decide) rfl (Nat.le_of_ble_eq_true rfl) (fun r6 _ => ?_)
      refine rhF.if_ne (pc := 30) 51 dX12_rankHere_30 (by decide) (fun h7 => ?_) (fun h7 => ?_)
      · refine rhF.aload_n (pc := 33) dX12_rankHere_33 0 rfl ?_
        refine rhF.bipush (pc := 34) (v := 62) dX12_rankHere_34 (by decide) ?_
        refine rhF.callV (pc := 36) (ci := 12) (embc := rhe0I _ _) [rhI _] dX12_rankHere_36 ml_X12_315 mv_X12_stands ⟨_, rfl, rfl⟩ h1 (c_X12_stands _ _ _ _ _) (by decide) (by decide) rfl (Nat.le_of_ble_eq_true rfl) (fun r8 _ => ?_)
        refine rhF.if_ne (pc := 39) 51 dX12_rankHere_39 (by decide) (fun h9 => ?_) (fun h9 => ?_)
        · refine rhF.aload_n (pc := 42) dX12_rankHere_42 0 rfl ?_
          refine rhF.bipush (pc := 43) (v := 61) dX12_rankHere_43 (by decide) ?_
          refine rhF.callV (pc := 45) (ci := 12) (embc := rhe0I _ _) [rhI _] dX12_rankHere_45 ml_X12_315 mv_X12_stands ⟨_, rfl, rfl⟩ h1 (c_X12_stands _ _ _ _ _) (by decide) (by decide) rfl (Nat.le_of_ble_eq_true rfl) (fun r10 _ => ?_)
          refine rhF.if_eq (pc := 48) 53 dX12_rankHere_48 (by decide) (fun h11 => ?_) (fun h11 => ?_)
          · refine rhF.aload_n (pc := 53) dX12_rankHere_53 0 rfl ?_
            refine rhF.bipush (pc := 54) (v := 43) dX12_rankHere_54 (by decide) ?_
            refine rhF.callV (pc := 56) (ci := 12) (embc := rhe0I _ _) [rhI _] dX12_rankHere_56 ml_X12_315 mv_X12_stands ⟨_, rfl, rfl⟩ h1 (c_X12_stands _ _ _ _ _) (by decide) (by decide) rfl (Nat.le_of_ble_eq_true rfl) (fun r12 _ => ?_)
            refine rhF.if_ne (pc := 59) 71 dX12_rankHere_59 (by decide) (fun h13 => ?_) (fun h13 => ?_)
            · refine rhF.aload_n (pc := 62) dX12_rankHere_62 0 rfl ?_
              refine rhF.bipush (pc := 63) (v := 45) dX12_rankHere_63 (by decide) ?_
              refine rhF.callV (pc := 65) (ci := 12) (embc := rhe0I _ _) [rhI _] dX12_rankHere_65 ml_X12_315 mv_X12_stands ⟨_, rfl, rfl⟩ h1 (c_X12_stands _ _ _ _ _) (by decide) (by decide) rfl (Nat.le_of_ble_eq_true rfl) (fun r14 _ => ?_)
              refine rhF.if_eq (pc := 68) 73 dX12_rankHere_68 (by decide) (fun h15 => ?_) (fun h15 => ?_)
              · refine rhF.aload_n (pc := 73) dX12_rankHere_73 0 rfl ?_
                refine rhF.bipush (pc := 74) (v := 42) dX12_rankHere_74 (by decide) ?_
                refine rhF.callV (pc := 76) (ci := 12) (embc := rhe0I _ _) [rhI _] dX12_rankHere_76 ml_X12_315 mv_X12_stands ⟨_, rfl, rfl⟩ h1 (c_X12_stands _ _ _ _ _) (by decide) (by decide) rfl (Nat.le_of_ble_eq_true rfl) (fun r16 _ => ?_)
                refine rhF.if_ne (pc := 79) 91 dX12_rankHere_79 (by decide) (fun h17 => ?_) (fun h17 => ?_)
                · refine rhF.aload_n (pc := 82) dX12_rankHere_82 0 rfl ?_
                  refine rhF.bipush (pc := 83) (v := 47) dX12_rankHere_83 (by decide) ?_
                  refine rhF.callV (pc := 85) (ci := 12) (embc := rhe0I _ _) [rhI _] dX12_rankHere_85 ml_X12_315 mv_X12_stands ⟨_, rfl, rfl⟩ h1 (c_X12_stands _ _ _ _ _) (by decide) (by decide) rfl (Nat.le_of_ble_eq_true rfl) (fun r18 _ => ?_)
                  refine rhF.if_eq (pc := 88) 96 dX12_rankHere_88 (by decide) (fun h19 => ?_) (fun h19 => ?_)
                  · refine rhF.iconst (pc := 96) (v := 0) dX12_rankHere_96 (by decide) ?_
                    exact rhF.zret (pc := 97) dX12_rankHere_97 rfl rfl rfl
                  · refine rhF.bipush (pc := 91) (v := 6) dX12_rankHere_91 (by decide) ?_
                    refine rhF.goto (pc := 93) 97 dX12_rankHere_93 (by decide) ?_
                    exact rhF.zret (pc := 97) dX12_rankHere_97 rfl rfl rfl
                · refine rhF.bipush (pc := 91) (v := 6) dX12_rankHere_91 (by decide) ?_
                  refine rhF.goto (pc := 93) 97 dX12_rankHere_93 (by decide) ?_
                  exact rhF.zret (pc := 97) dX12_rankHere_97 rfl rfl rfl
              · refine rhF.iconst (pc := 71) (v := 5) dX12_rankHere_71 (by decide) ?_
                exact rhF.zret (pc := 72) dX12_rankHere_72 rfl rfl rfl
            · refine rhF.iconst (pc := 71) (v := 5) dX12_rankHere_71 (by decide) ?_
              exact rhF.zret (pc := 72) dX12_rankHere_72 rfl rfl rfl
          · refine rhF.iconst (pc := 51) (v := 4) dX12_rankHere_51 (by decide) ?_
            exact rhF.zret (pc := 52) dX12_rankHere_52 rfl rfl rfl
        · refine rhF.iconst (pc := 51) (v := 4) dX12_rankHere_51 (by decide) ?_
          exact rhF.zret (pc := 52) dX12_rankHere_52 rfl rfl rfl
      · refine rhF.iconst (pc := 51) (v := 4) dX12_rankHere_51 (by decide) ?_
        exact rhF.zret (pc := 52) dX12_rankHere_52 rfl rfl rfl
    · refine rhF.iconst (pc := 22) (v := 1) dX12_rankHere_22 (by decide) ?_
      exact rhF.zret (pc := 23) dX12_rankHere_23 rfl rfl rfl
  · refine rhF.iconst (pc := 10) (v := 2) dX12_rankHere_10 (by decide) ?_
    exact rhF.zret (pc := 11) dX12_rankHere_11 rfl rfl rfl
theorem c_X12_rankHere (E : rhE) (Γ : rhG) (M : rhM) (v0 : Nat) : ∀ a, f_X12_rankHere Γ M v0 = some a → rhC E 6 yX12_rankHere cX12_rankHere 1 (some .int) [rhR v0] Γ M ((rhe0I Γ M) a) := rhF.met (by decide +kernel) (Nat.le_of_ble_eq_true rfl) (b_X12_rankHere v0)
def f_X12_behindUnit_87 (k23 : rhM → Nat → Int32 → Option (Int32 × rhM)) (Γ : rhG) (M : rhM) (v0 : Nat) (v1 : Int32) : Option (Int32 × rhM) :=
  rhck (Γ.2.2.1 v0 = 13) <|
  rhck (Γ.2.2.1 (M.2.2 v0 32) = 15) <|
  rhck (0 ≤ (M.1 v0 38).toInt ∧ (M.1 v0 38).toInt < (Γ.2.2.2 (M.2.2 v0 32) : Nat)) <|
  (f_X12_emit Γ M v0 (M.1 (M.2.2 v0 32) (M.1 v0 38).toNatClampNeg) (0 : Int32)).bind fun r18 =>
  k23 r18 v0 v1
def f_X12_behindUnit_23 (k104 : rhM → Nat → Int32 → Option (Int32 × rhM)) (Γ : rhG) : Nat → rhM → Nat → Int32 → Option (Int32 × rhM)
  | 0, _, _, _ => none
  | n + 1, M, v0, v1 =>
    rhck (Γ.2.2.1 v0 = 13) <|
    rhck (Γ.2.2.1 (M.2.2 v0 31) = 15) <|
    rhck (0 ≤ ((M.1 v0 38) - 1).toInt ∧ ((M.1 v0 38) - 1).toInt < (Γ.2.2.2 (M.2.2 v0 31) : Nat)) <|
    if 6 < (M.1 (M.2.2 v0 31) ((M.1 v0 38) - 1).toNatClampNeg) then
      (k104 M v0 v1)
    else
      if (M.1 (M.2.2 v0 31) ((M.1 v0 38) - 1).toNatClampNeg) < v1 then
        (k104 M v0 v1)
      else
        let M11 := rhsi M v0 38 ((M.1 v0 38) - 1)
        rhck (0 ≤ (M11.1 v0 38).toInt ∧ (M11.1 v0 38).toInt < (Γ.2.2.2 (M.2.2 v0 31) : Nat)) <|
        if (M11.1 (M.2.2 v0 31) (M11.1 v0 38).toNatClampNeg) = 3 then
          (let M14 := rhsi M11 v0 37 ((M11.1 v0 37) - 1)
          f_X12_behindUnit_87 (f_X12_behindUnit_23 k104 Γ n) Γ M14 v0 v1)
        else
          f_X12_behindUnit_87 (f_X12_behindUnit_23 k104 Γ n) Γ M11 v0 v1
def f_X12_behindUnit_138 (Γ : rhG) (M : rhM) (v0 : Nat) (s0 : Nat) (s1 : Int32) (s2 : Int32) : Option (Int32 × rhM) :=
  rhck (Γ.2.2.1 s0 = 13) <|
  (f_X12_pushE Γ M s0 s1 s2).bind fun r22 =>
  rhck (Γ.2.2.1 v0 = 13) <|
  (f_X12_goOn Γ r22 v0).bind fun r24 =>
  some ((1, r24))
def f_X12_behindUnit_104 (Γ : rhG) (M : rhM) (v0 : Nat) (v1 : Int32) : Option (Int32 × rhM) :=
  if 0 < v1 then
    (if v1 = 2 then
      (f_X12_behindUnit_138 Γ M v0 v0 v1 38)
    else
      if v1 = 1 then
        (f_X12_behindUnit_138 Γ M v0 v0 v1 124)
      else
        rhck (Γ.2.2.1 v0 = 13) <|
        (f_X12_sign Γ M v0 (M.1 v0 6)).bind fun r27 =>
        f_X12_behindUnit_138 Γ M v0 v0 v1 r27)
  else
    rhck (Γ.2.2.1 v0 = 13) <|
    let M29 := rhsi M v0 38 ((M.1 v0 38) - 1)
    rhck (Γ.2.2.1 (M.2.2 v0 31) = 15) <|
    rhck (0 ≤ (M29.1 v0 38).toInt ∧ (M29.1 v0 38).toInt < (Γ.2.2.2 (M.2.2 v0 31) : Nat)) <|
    if (M29.1 (M.2.2 v0 31) (M29.1 v0 38).toNatClampNeg) = 7 then
      (let M33 := rhsi M29 v0 37 ((M29.1 v0 37) - 1)
      (f_X12_stands Γ M33 v0 (41 : Int32)).bind fun r34 =>
      (f_X12_must Γ M33 v0 r34).bind fun r35 =>
      some ((0, r35)))
    else
      some ((0, M29))
def f_X12_behindUnit (Γ : rhG) (M : rhM) (v0 : Nat) : Option (Int32 × rhM) :=
  rhck (Γ.2.2.1 v0 = 13) <|
  (f_X12_rankHere Γ M v0).bind fun r2 =>
  if r2 = 4 then
    ((f_X12_isCompared Γ M v0).bind fun r4 =>
    if r4 = 0 then
      (f_X12_behindUnit_23 (f_X12_behindUnit_104 Γ) Γ rhFU M v0 r2)
    else
      (f_X12_misplaced Γ M v0).bind fun r36 =>
      some ((1, r36)))
  else
    f_X12_behindUnit_23 (f_X12_behindUnit_104 Γ) Γ rhFU M v0 r2
set_option maxHeartbeats 4000000 in
set_option maxRecDepth 100000 in
theorem b_X12_behindUnit_87 {E : rhE} {Γ : rhG} {k23 : rhM → Nat → Int32 → Option (Int32 × rhM)} (hk23 : ∀ (M : rhM) (v0 : Nat) (v1 : Int32), rhF E 7 2 yX12_behindUnit cX12_behindUnit (some .boolean) Γ (rhe1I Γ) (k23 M v0 v1) 23 [(0, rhR v0), (1, rhI v1)] [] Γ M) : ∀ (M : rhM) (v0 : Nat) (v1 : Int32), rhF E 7 2 yX12_behindUnit cX12_behindUnit (some .boolean) Γ (rhe1I Γ) (f_X12_behindUnit_87 k23 Γ M v0 v1) 87 [(0, rhR v0), (1, rhI v1)] [] Γ M := by
  intro M v0 v1
  rw [f_X12_behindUnit_87]
  refine rhF.aload_n (pc := 87) dX12_behindUnit_87 0 rfl ?_
  refine rhF.aload_n (pc := 88) dX12_behindUnit_88 0 rfl ?_
  refine rhF.ck (fun h15 => ?_)
  refine rhF.get (pc := 89) (rhR _) dX12_behindUnit_89 fl_X12_86 h15 rfl ?_
  refine rhF.aload_n (pc := 92) dX12_behindUnit_92 0 rfl ?_
  refine rhF.get (pc := 93) (rhI _) dX12_behindUnit_93 fl_X12_385 h15 rfl ?_
  refine rhF.ck (fun h16 => ?_)
  refine rhF.ck (fun h17 => ?_)
  refine rhF.iald (pc := 96) dX12_behindUnit_96 h16 h17 ?_
  refine rhF.iconst (pc := 97) (v := 0) dX12_behindUnit_97 (by decide) ?_
  refine rhF.callV (pc := 98) (ci := 12) (embc := rhe1U _) [rhI _, rhI _] dX12_behindUnit_98 ml_X12_403 mv_X12_emit ⟨_, rfl, rfl⟩ h15 (c_X12_emit _ _ _ _ _ _) (by decide) (by decide) rfl (Nat.le_of_ble_eq_true rfl) (fun r18 _ => ?_)
  refine rhF.goto (pc := 101) 23 dX12_behindUnit_101 (by decide) ?_
  exact hk23 _ _ _
set_option maxHeartbeats 4000000 in
set_option maxRecDepth 100000 in
theorem b_X12_behindUnit_23 {E : rhE} {Γ : rhG} {k104 : rhM → Nat → Int32 → Option (Int32 × rhM)} (hk104 : ∀ (M : rhM) (v0 : Nat) (v1 : Int32), rhF E 7 2 yX12_behindUnit cX12_behindUnit (some .boolean) Γ (rhe1I Γ) (k104 M v0 v1) 104 [(0, rhR v0), (1, rhI v1)] [] Γ M) : ∀ (n : Nat) (M : rhM) (v0 : Nat) (v1 : Int32), rhF E 7 2 yX12_behindUnit cX12_behindUnit (some .boolean) Γ (rhe1I Γ) (f_X12_behindUnit_23 k104 Γ n M v0 v1) 23 [(0, rhR v0), (1, rhI v1)] [] Γ M := by
  intro n
  induction n with
  | zero => intro M v0 v1; rw [f_X12_behindUnit_23]; exact rhF.nope
  | succ n ih =>
    intro M v0 v1
    rw [f_X12_behindUnit_23]
    refine rhF.aload_n (pc := 23) dX12_behindUnit_23 0 rfl ?_
    refine rhF.ck (fun h6 => ?_)
    refine rhF.get (pc := 24) (rhR _) dX12_behindUnit_24 fl_X12_83 h6 rfl ?_
    refine rhF.aload_n (pc := 27) dX12_behindUnit_27 0 rfl ?_
    refine rhF.get (pc := 28) (rhI _) dX12_behindUnit_28 fl_X12_385 h6 rfl ?_
    refine rhF.iconst (pc := 31) (v := 1) dX12_behindUnit_31 (by decide) ?_
    refine rhF.isub (pc := 32) dX12_behindUnit_32 ?_
    refine rhF.ck (fun h7 => ?_)
    refine rhF.ck (fun h8 => ?_)
    refine rhF.iald (pc := 33) dX12_behindUnit_33 h7 h8 ?_
    refine rhF.bipush (pc := 34) (v := 6) dX12_behindUnit_34 (by decide) ?_
    refine rhF.icmp_gt (pc := 36) 104 dX12_behindUnit_36 (by decide) (fun h9 => ?_) (fun h9 => ?_)
    · exact hk104 _ _ _
    · refine rhF.aload_n (pc := 39) dX12_behindUnit_39 0 rfl ?_
      refine rhF.get (pc := 40) (rhR _) dX12_behindUnit_40 fl_X12_83 h6 rfl ?_
      refine rhF.aload_n (pc := 43) dX12_behindUnit_43 0 rfl ?_
      refine rhF.get (pc := 44) (rhI _) dX12_behindUnit_44 fl_X12_385 h6 rfl ?_
      refine rhF.iconst (pc := 47) (v := 1) dX12_behindUnit_47 (by decide) ?_
      refine rhF.isub (pc := 48) dX12_behindUnit_48 ?_
      refine rhF.iald (pc := 49) dX12_behindUnit_49 h7 h8 ?_
      refine rhF.iload_n (pc := 50) dX12_behindUnit_50 1 rfl ?_
      refine rhF.icmp_lt (pc := 51) 104 dX12_behindUnit_51 (by decide) (fun h10 => ?_) (fun h10 => ?_)
      · exact hk104 _ _ _
      · refine rhF.aload_n (pc := 54) dX12_behindUnit_54 0 rfl ?_
        refine rhF.dupr (pc := 55) dX12_behindUnit_55 ?_
        refine rhF.get (pc := 56) (rhI _) dX12_behindUnit_56 fl_X12_385 h6 rfl ?_
        refine rhF.iconst (pc := 59) (v := 1) dX12_behindUnit_59 (by decide) ?_
        refine rhF.isub (pc := 60) dX12_behindUnit_60 ?_
        refine rhF.puti (pc := 61) dX12_behindUnit_61 fl_X12_385 h6 (fun q hq => by cases hq; exact Or.inl rfl) ⟨rfl, rfl⟩ (fun _ => rfl) ?_
        refine rhF.aload_n (pc := 64) dX12_behindUnit_64 0 rfl ?_
        refine rhF.get (pc := 65) (rhR _) dX12_behindUnit_65 fl_X12_83 h6 rfl ?_
        refine rhF.aload_n (pc := 68) dX12_behindUnit_68 0 rfl ?_
        refine rhF.get (pc := 69) (rhI _) dX12_behindUnit_69 fl_X12_385 h6 rfl ?_
        refine rhF.ck (fun h12 => ?_)
        refine rhF.iald (pc := 72) dX12_behindUnit_72 h7 h12 ?_
        refine rhF.iconst (pc := 73) (v := 3) dX12_behindUnit_73 (by decide) ?_
        refine rhF.icmp_ne (pc := 74) 87 dX12_behindUnit_74 (by decide) (fun h13 => ?_) (fun h13 => ?_)
        · refine rhF.aload_n (pc := 77) dX12_behindUnit_77 0 rfl ?_
          refine rhF.dupr (pc := 78) dX12_behindUnit_78 ?_
          refine rhF.get (pc := 79) (rhI _) dX12_behindUnit_79 fl_X12_388 h6 rfl ?_
          refine rhF.iconst (pc := 82) (v := 1) dX12_behindUnit_82 (by decide) ?_
          refine rhF.isub (pc := 83) dX12_behindUnit_83 ?_
          refine rhF.puti (pc := 84) dX12_behindUnit_84 fl_X12_388 h6 (fun q hq => by cases hq; exact Or.inl rfl) ⟨rfl, rfl⟩ (fun _ => rfl) ?_
          exact (b_X12_behindUnit_87 ih) _ _ _
        · exact (b_X12_behindUnit_87 ih) _ _ _
set_option maxHeartbeats 4000000 in
set_option maxRecDepth 100000 in
theorem b_X12_behindUnit_138 {E : rhE} {Γ : rhG} : ∀ (M : rhM) (v0 : Nat) (s0 : Nat) (s1 : Int32) (s2 : Int32), rhF E 7 2 yX12_behindUnit cX12_behindUnit (some .boolean) Γ (rhe1I Γ) (f_X12_behindUnit_138 Γ M v0 s0 s1 s2) 138 [(0, rhR v0)] [rhI s2, rhI s1, rhR s0] Γ M := by
  intro M v0 s0 s1 s2
  rw [f_X12_behindUnit_138]
  refine rhF.ck (fun h21 => ?_)
  refine rhF.callV (pc := 138) (ci := 12) (embc := rhe1U _) [rhI _, rhI _] dX12_behindUnit_138 ml_X12_391 mv_X12_pushE ⟨_, rfl, rfl⟩ h21 (c_X12_pushE _ _ _ _ _ _) (by decide) (by decide) rfl (Nat.le_of_ble_eq_true rfl) (fun r22 _ => ?_)
  refine rhF.aload_n (pc := 141) dX12_behindUnit_141 0 rfl ?_
  refine rhF.ck (fun h23 => ?_)
  refine rhF.callV (pc := 142) (ci := 12) (embc := rhe1U _) [] dX12_behindUnit_142 ml_X12_298 mv_X12_goOn ⟨_, rfl, rfl⟩ h23 (c_X12_goOn _ _ _ _) (by decide) (by decide) rfl (Nat.le_of_ble_eq_true rfl) (fun r24 _ => ?_)
  refine rhF.iconst (pc := 145) (v := 1) dX12_behindUnit_145 (by decide) ?_
  exact rhF.zret (pc := 146) dX12_behindUnit_146 rfl rfl rfl
set_option maxHeartbeats 4000000 in
set_option maxRecDepth 100000 in
theorem b_X12_behindUnit_104 {E : rhE} {Γ : rhG} : ∀ (M : rhM) (v0 : Nat) (v1 : Int32), rhF E 7 2 yX12_behindUnit cX12_behindUnit (some .boolean) Γ (rhe1I Γ) (f_X12_behindUnit_104 Γ M v0 v1) 104 [(0, rhR v0), (1, rhI v1)] [] Γ M := by
  intro M v0 v1
  rw [f_X12_behindUnit_104]
  refine rhF.iload_n (pc := 104) dX12_behindUnit_104 1 rfl ?_
  refine rhF.if_le (pc := 105) 147 dX12_behindUnit_105 (by decide) (fun h19 => ?_) (fun h19 => ?_)
  · refine rhF.aload_n (pc := 108) dX12_behindUnit_108 0 rfl ?_
    refine rhF.iload_n (pc := 109) dX12_behindUnit_109 1 rfl ?_
    refine rhF.iload_n (pc := 110) dX12_behindUnit_110 1 rfl ?_
    refine rhF.iconst (pc := 111) (v := 2) dX12_behindUnit_111 (by decide) ?_
    refine rhF.icmp_ne (pc := 112) 120 dX12_behindUnit_112 (by decide) (fun h20 => ?_) (fun h20 => ?_)
    · refine rhF.bipush (pc := 115) (v := 38) dX12_behindUnit_115 (by decide) ?_
      refine rhF.goto (pc := 117) 138 dX12_behindUnit_117 (by decide) ?_
      refine rhF.sub [0] rfl ?_
      exact (b_X12_behindUnit_138) _ _ _ _ _
    · refine rhF.iload_n (pc := 120) dX12_behindUnit_120 1 rfl ?_
      refine rhF.iconst (pc := 121) (v := 1) dX12_behindUnit_121 (by decide) ?_
      refine rhF.icmp_ne (pc := 122) 130 dX12_behindUnit_122 (by decide) (fun h25 => ?_) (fun h25 => ?_)
      · refine rhF.bipush (pc := 125) (v := 124) dX12_behindUnit_125 (by decide) ?_
        refine rhF.goto (pc := 127) 138 dX12_behindUnit_127 (by decide) ?_
        refine rhF.sub [0] rfl ?_
        exact (b_X12_behindUnit_138) _ _ _ _ _
      · refine rhF.aload_n (pc := 130) dX12_behindUnit_130 0 rfl ?_
        refine rhF.aload_n (pc := 131) dX12_behindUnit_131 0 rfl ?_
        refine rhF.ck (fun h26 => ?_)
        refine rhF.get (pc := 132) (rhI _) dX12_behindUnit_132 fl_X12_259 h26 rfl ?_
        refine rhF.callV (pc := 135) (ci := 12) (embc := rhe0I _ _) [rhI _] dX12_behindUnit_135 ml_X12_262 mv_X12_sign ⟨_, rfl, rfl⟩ h26 (c_X12_sign _ _ _ _ _) (by decide) (by decide) rfl (Nat.le_of_ble_eq_true rfl) (fun r27 _ => ?_)
        refine rhF.sub [0] rfl ?_
        exact (b_X12_behindUnit_138) _ _ _ _ _
  · refine rhF.aload_n (pc := 147) dX12_behindUnit_147 0 rfl ?_
    refine rhF.dupr (pc := 148) dX12_behindUnit_148 ?_
    refine rhF.ck (fun h28 => ?_)
    refine rhF.get (pc := 149) (rhI _) dX12_behindUnit_149 fl_X12_385 h28 rfl ?_
    refine rhF.iconst (pc := 152) (v := 1) dX12_behindUnit_152 (by decide) ?_
    refine rhF.isub (pc := 153) dX12_behindUnit_153 ?_
    refine rhF.puti (pc := 154) dX12_behindUnit_154 fl_X12_385 h28 (fun q hq => by cases hq; exact Or.inl rfl) ⟨rfl, rfl⟩ (fun _ => rfl) ?_
    refine rhF.aload_n (pc := 157) dX12_behindUnit_157 0 rfl ?_
    refine rhF.get (pc := 158) (rhR _) dX12_behindUnit_158 fl_X12_83 h28 rfl ?_
    refine rhF.aload_n (pc := 161) dX12_behindUnit_161 0 rfl ?_
    refine rhF.get (pc := 162) (rhI _) dX12_behindUnit_162 fl_X12_385 h28 rfl ?_
    refine rhF.ck (fun h30 => ?_)
    refine rhF.ck (fun h31 => ?_)
    refine rhF.iald (pc := 165) dX12_behindUnit_165 h30 h31 ?_
    refine rhF.bipush (pc := 166) (v := 7) dX12_behindUnit_166 (by decide) ?_
    refine rhF.icmp_ne (pc := 168) 191 dX12_behindUnit_168 (by decide) (fun h32 => ?_) (fun h32 => ?_)
    · refine rhF.aload_n (pc := 171) dX12_behindUnit_171 0 rfl ?_
      refine rhF.dupr (pc := 172) dX12_behindUnit_172 ?_
      refine rhF.get (pc := 173) (rhI _) dX12_behindUnit_173 fl_X12_388 h28 rfl ?_
      refine rhF.iconst (pc := 176) (v := 1) dX12_behindUnit_176 (by decide) ?_
      refine rhF.isub (pc := 177) dX12_behindUnit_177 ?_
      refine rhF.puti (pc := 178) dX12_behindUnit_178 fl_X12_388 h28 (fun q hq => by cases hq; exact Or.inl rfl) ⟨rfl, rfl⟩ (fun _ => rfl) ?_
      refine rhF.aload_n (pc := 181) dX12_behindUnit_181 0 rfl ?_
      refine rhF.aload_n (pc := 182) dX12_behindUnit_182 0 rfl ?_
      refine rhF.bipush (pc := 183) (v := 41) dX12_behindUnit_183 (by decide) ?_
      refine rhF.callV (pc := 185) (ci := 12) (embc := rhe0I _ _) [rhI _] dX12_behindUnit_185 ml_X12_315 mv_X12_stands ⟨_, rfl, rfl⟩ h28 (c_X12_stands _ _ _ _ _) (by decide) (by decide) rfl (Nat.le_of_ble_eq_true rfl) (fun r34 _ => ?_)
      refine rhF.callV (pc := 188) (ci := 12) (embc := rhe1U _) [rhI _] dX12_behindUnit_188 ml_X12_307 mv_X12_must ⟨_, rfl, rfl⟩ h28 (c_X12_must _ _ _ _ _) (by decide) (by decide) rfl (Nat.le_of_ble_eq_true rfl) (fun r35 _ => ?_)
      refine rhF.iconst (pc := 191) (v := 0) dX12_behindUnit_191 (by decide) ?_
      exact rhF.zret (pc := 192) dX12_behindUnit_192 rfl rfl rfl
    · refine rhF.iconst (pc := 191) (v := 0) dX12_behindUnit_191 (by decide) ?_
      exact rhF.zret (pc := 192) dX12_behindUnit_192 rfl rfl rfl
set_option maxHeartbeats 4000000 in
set_option maxRecDepth 100000 in
theorem b_X12_behindUnit {E : rhE} {Γ : rhG} : ∀ (M : rhM) (v0 : Nat), rhF E 7 2 yX12_behindUnit cX12_behindUnit (some .boolean) Γ (rhe1I Γ) (f_X12_behindUnit Γ M v0) 0 [(0, rhR v0)] [] Γ M := by
  intro M v0
  rw [f_X12_behindUnit]
  refine rhF.aload_n (pc := 0) dX12_behindUnit_0 0 rfl ?_
  refine rhF.ck (fun h1 => ?_)
  refine rhF.callV (pc := 1) (ci := 12) (embc := rhe0I _ _) [] dX12_behindUnit_1 ml_X12_406 mv_X12_rankHere ⟨_, rfl, rfl⟩ h1 (c_X12_rankHere _ _ _ _) (by decide) (by decide) rfl (Nat.le_of_ble_eq_true rfl) (fun r2 _ => ?_)
  refine rhF.istore_n (pc := 4) (L' := [(1, rhI _), (0, rhR _)]) dX12_behindUnit_4 (by decide) rfl ?_
  refine rhF.iload_n (pc := 5) dX12_behindUnit_5 0 rfl ?_
  refine rhF.iconst (pc := 6) (v := 4) dX12_behindUnit_6 (by decide) ?_
  refine rhF.icmp_ne (pc := 7) 23 dX12_behindUnit_7 (by decide) (fun h3 => ?_) (fun h3 => ?_)
  · refine rhF.aload_n (pc := 10) dX12_behindUnit_10 1 rfl ?_
    refine rhF.callV (pc := 11) (ci := 12) (embc := rhe0I _ _) [] dX12_behindUnit_11 ml_X12_409 mv_X12_isCompared ⟨_, rfl, rfl⟩ h1 (c_X12_isCompared _ _ _ _) (by decide) (by decide) rfl (Nat.le_of_ble_eq_true rfl) (fun r4 _ => ?_)
    refine rhF.if_eq (pc := 14) 23 dX12_behindUnit_14 (by decide) (fun h5 => ?_) (fun h5 => ?_)
    · refine rhF.sub [1, 0] rfl ?_
      exact (b_X12_behindUnit_23 (b_X12_behindUnit_104) rhFU) _ _ _
    · refine rhF.aload_n (pc := 17) dX12_behindUnit_17 1 rfl ?_
      refine rhF.callV (pc := 18) (ci := 12) (embc := rhe1U _) [] dX12_behindUnit_18 ml_X12_301 mv_X12_misplaced ⟨_, rfl, rfl⟩ h1 (c_X12_misplaced _ _ _ _) (by decide) (by decide) rfl (Nat.le_of_ble_eq_true rfl) (fun r36 _ => ?_)
      refine rhF.iconst (pc := 21) (v := 1) dX12_behindUnit_21 (by decide) ?_
      exact rhF.zret (pc := 22) dX12_behindUnit_22 rfl rfl rfl
  · refine rhF.sub [1, 0] rfl ?_
    exact (b_X12_behindUnit_23 (b_X12_behindUnit_104) rhFU) _ _ _
theorem c_X12_behindUnit (E : rhE) (Γ : rhG) (M : rhM) (v0 : Nat) : ∀ a, f_X12_behindUnit Γ M v0 = some a → rhC E 7 yX12_behindUnit cX12_behindUnit 2 (some .boolean) [rhR v0] Γ M ((rhe1I Γ) a) := rhF.met (by decide +kernel) (Nat.le_of_ble_eq_true rfl) (b_X12_behindUnit M v0)
def f_X12_here_34 (k3 : Nat → Nat → Int32 → Int32 → Int32 → Option (Int32)) (Γ : rhG) (M : rhM) (v0 : Nat) (v1 : Nat) (v2 : Int32) (v3 : Int32) (v4 : Int32) : Option (Int32) :=
  let x7 : Int32 := v4 + 1
  k3 v0 v1 v2 v3 x7
def f_X12_here_3 (Γ : rhG) (M : rhM) : Nat → Nat → Nat → Int32 → Int32 → Int32 → Option (Int32)
  | 0, _, _, _, _, _ => none
  | n + 1, v0, v1, v2, v3, v4 =>
    if v4 < v3 then
      (rhck (Γ.2.2.1 v0 = 13) <|
      if (M.1 v0 8) = 2 then
        (rhck (Γ.2.2.1 v1 = 16) <|
        rhck (0 ≤ (v2 + v4).toInt ∧ (v2 + v4).toInt < (Γ.2.2.2 v1 : Nat)) <|
        if (M.2.1 v1 (v2 + v4).toNatClampNeg) = (M.2.1 v0 10) then
          (some v4)
        else
          f_X12_here_34 (f_X12_here_3 Γ M n) Γ M v0 v1 v2 v3 v4)
      else
        f_X12_here_34 (f_X12_here_3 Γ M n) Γ M v0 v1 v2 v3 v4)
    else
      some ((-1))
def f_X12_here (Γ : rhG) (M : rhM) (v0 : Nat) (v1 : Nat) (v2 : Int32) (v3 : Int32) : Option (Int32) :=
  f_X12_here_3 Γ M rhFU v0 v1 v2 v3 0
set_option maxHeartbeats 4000000 in
set_option maxRecDepth 100000 in
theorem b_X12_here_34 {E : rhE} {Γ : rhG} {M : rhM} {k3 : Nat → Nat → Int32 → Int32 → Int32 → Option (Int32)} (hk3 : ∀ (v0 : Nat) (v1 : Nat) (v2 : Int32) (v3 : Int32) (v4 : Int32), rhF E 1 5 yX12_here cX12_here (some .int) Γ (rhe0I Γ M) (k3 v0 v1 v2 v3 v4) 3 [(0, rhR v0), (1, rhR v1), (2, rhI v2), (3, rhI v3), (4, rhI v4)] [] Γ M) : ∀ (v0 : Nat) (v1 : Nat) (v2 : Int32) (v3 : Int32) (v4 : Int32), rhF E 1 5 yX12_here cX12_here (some .int) Γ (rhe0I Γ M) (f_X12_here_34 k3 Γ M v0 v1 v2 v3 v4) 34 [(0, rhR v0), (1, rhR v1), (2, rhI v2), (3, rhI v3), (4, rhI v4)] [] Γ M := by
  intro v0 v1 v2 v3 v4
  rw [f_X12_here_34]
  refine rhF.iinc (pc := 34) (L' := [(4, rhI _), (0, rhR _), (1, rhR _), (2, rhI _), (3, rhI _)]) dX12_here_34 4 rfl rfl (by decide) rfl ?_
  refine rhF.goto (pc := 37) 3 dX12_here_37 (by decide) ?_
  refine rhF.sub [1, 2, 3, 4, 0] rfl ?_
  exact hk3 _ _ _ _ _
set_option maxHeartbeats 4000000 in
set_option maxRecDepth 100000 in
theorem b_X12_here_3 {E : rhE} {Γ : rhG} {M : rhM} : ∀ (n : Nat) (v0 : Nat) (v1 : Nat) (v2 : Int32) (v3 : Int32) (v4 : Int32), rhF E 1 5 yX12_here cX12_here (some .int) Γ (rhe0I Γ M) (f_X12_here_3 Γ M n v0 v1 v2 v3 v4) 3 [(0, rhR v0), (1, rhR v1), (2, rhI v2), (3, rhI v3), (4, rhI v4)] [] Γ M := by
  intro n
  induction n with
  | zero => intro v0 v1 v2 v3 v4; rw [f_X12_here_3]; exact rhF.nope
  | succ n ih =>
    intro v0 v1 v2 v3 v4
    rw [f_X12_here_3]
    refine rhF.iload (pc := 3) dX12_here_3 4 rfl ?_
    refine rhF.iload_n (pc := 5) dX12_here_5 3 rfl ?_
    refine rhF.icmp_ge (pc := 6) 40 dX12_here_6 (by decide) (fun h1 => ?_) (fun h1 => ?_)
    · refine rhF.aload_n (pc := 9) dX12_here_9 0 rfl ?_
      refine rhF.ck (fun h2 => ?_)
      refine rhF.get (pc := 10) (rhI _) dX12_here_10 fl_X12_266 h2 rfl ?_
      refine rhF.iconst (pc := 13) (v := 2) dX12_here_13 (by decide) ?_
      refine rhF.icmp_ne (pc := 14) 34 dX12_here_14 (by decide) (fun h3 => ?_) (fun h3 => ?_)
      · refine rhF.aload_n (pc := 17) dX12_here_17 1 rfl ?_
        refine rhF.iload_n (pc := 18) dX12_here_18 2 rfl ?_
        refine rhF.iload (pc := 19) dX12_here_19 4 rfl ?_
        refine rhF.iadd (pc := 21) dX12_here_21 ?_
        refine rhF.ck (fun h4 => ?_)
        refine rhF.ck (fun h5 => ?_)
        refine rhF.lald (pc := 22) dX12_here_22 h4 h5 ?_
        refine rhF.aload_n (pc := 23) dX12_here_23 0 rfl ?_
        refine rhF.get (pc := 24) (rhJ _) dX12_here_24 fl_X12_273 h2 rfl ?_
        refine rhF.lcne (pc := 27) 34 dX12_here_27 dX12_here_28 (by decide) (fun h6 => ?_) (fun h6 => ?_)
        · refine rhF.iload (pc := 31) dX12_here_31 4 rfl ?_
          exact rhF.zret (pc := 33) dX12_here_33 rfl rfl rfl
        · exact (b_X12_here_34 ih) _ _ _ _ _
      · exact (b_X12_here_34 ih) _ _ _ _ _
    · refine rhF.iconst (pc := 40) (v := (-1)) dX12_here_40 (by decide) ?_
      exact rhF.zret (pc := 41) dX12_here_41 rfl rfl rfl
set_option maxHeartbeats 4000000 in
set_option maxRecDepth 100000 in
theorem b_X12_here {E : rhE} {Γ : rhG} {M : rhM} : ∀ (v0 : Nat) (v1 : Nat) (v2 : Int32) (v3 : Int32), rhF E 1 5 yX12_here cX12_here (some .int) Γ (rhe0I Γ M) (f_X12_here Γ M v0 v1 v2 v3) 0 [(0, rhR v0), (1, rhR v1), (2, rhI v2), (3, rhI v3)] [] Γ M := by
  intro v0 v1 v2 v3
  rw [f_X12_here]
  refine rhF.iconst (pc := 0) (v := 0) dX12_here_0 (by decide) ?_
  refine rhF.istore (pc := 1) (L' := [(4, rhI _), (0, rhR _), (1, rhR _), (2, rhI _), (3, rhI _)]) dX12_here_1 (by decide) rfl ?_
  refine rhF.sub [1, 2, 3, 4, 0] rfl ?_
  exact (b_X12_here_3 rhFU) _ _ _ _ _
theorem c_X12_here (E : rhE) (Γ : rhG) (M : rhM) (v0 : Nat) (v1 : Nat) (v2 : Int32) (v3 : Int32) : ∀ a, f_X12_here Γ M v0 v1 v2 v3 = some a → rhC E 1 yX12_here cX12_here 5 (some .int) [rhR v0, rhR v1, rhI v2, rhI v3] Γ M ((rhe0I Γ M) a) := rhF.met (by decide +kernel) (Nat.le_of_ble_eq_true rfl) (b_X12_here v0 v1 v2 v3)
def f_X12_houseHere (Γ : rhG) (M : rhM) (v0 : Nat) : Option (Int32) :=
  rhck (Γ.2.2.1 v0 = 13) <|
  rhck (Γ.2.2.1 (M.2.2 v0 12) = 15) <|
  rhck (0 ≤ (M.1 v0 35).toInt ∧ (M.1 v0 35).toInt < (Γ.2.2.2 (M.2.2 v0 12) : Nat)) <|
  (f_X12_here Γ M v0 (M.2.2 v0 28) (8 * (M.1 v0 35)) (M.1 (M.2.2 v0 12) (M.1 v0 35).toNatClampNeg)).bind fun r4 =>
  some r4
set_option maxHeartbeats 4000000 in
set_option maxRecDepth 100000 in
theorem b_X12_houseHere {E : rhE} {Γ : rhG} {M : rhM} : ∀ (v0 : Nat), rhF E 5 1 yX12_houseHere cX12_houseHere (some .int) Γ (rhe0I Γ M) (f_X12_houseHere Γ M v0) 0 [(0, rhR v0)] [] Γ M := by
  intro v0
  rw [f_X12_houseHere]
  refine rhF.aload_n (pc := 0) dX12_houseHere_0 0 rfl ?_
  refine rhF.aload_n (pc := 1) dX12_houseHere_1 0 rfl ?_
  refine rhF.ck (fun h1 => ?_)
  refine rhF.get (pc := 2) (rhR _) dX12_houseHere_2 fl_X12_74 h1 rfl ?_
  refine rhF.bipush (pc := 5) (v := 8) dX12_houseHere_5 (by decide) ?_
  refine rhF.aload_n (pc := 7) dX12_houseHere_7 0 rfl ?_
  refine rhF.get (pc := 8) (rhI _) dX12_houseHere_8 fl_X12_318 h1 rfl ?_
  refine rhF.imul (pc := 11) dX12_houseHere_11 ?_
  refine rhF.aload_n (pc := 12) dX12_houseHere_12 0 rfl ?_
  refine rhF.get (pc := 13) (rhR _) dX12_houseHere_13 fl_X12_24 h1 rfl ?_
  refine rhF.aload_n (pc := 16) dX12_houseHere_16 0 rfl ?_
  refine rhF.get (pc := 17) (rhI _) dX12_houseHere_17 fl_X12_318 h1 rfl ?_
  refine rhF.ck (fun h2 => ?_)
  refine rhF.ck (fun h3 => ?_)
  refine rhF.iald (pc := 20) dX12_houseHere_20 h2 h3 ?_
  refine rhF.callV (pc := 21) (ci := 12) (embc := rhe0I _ _) [rhR _, rhI _, rhI _] dX12_houseHere_21 ml_X12_360 mv_X12_here ⟨_, rfl, rfl⟩ h1 (c_X12_here _ _ _ _ _ _ _) (by decide) (by decide) rfl (Nat.le_of_ble_eq_true rfl) (fun r4 _ => ?_)
  exact rhF.zret (pc := 24) dX12_houseHere_24 rfl rfl rfl
theorem c_X12_houseHere (E : rhE) (Γ : rhG) (M : rhM) (v0 : Nat) : ∀ a, f_X12_houseHere Γ M v0 = some a → rhC E 5 yX12_houseHere cX12_houseHere 1 (some .int) [rhR v0] Γ M ((rhe0I Γ M) a) := rhF.met (by decide +kernel) (Nat.le_of_ble_eq_true rfl) (b_X12_houseHere v0)
def f_X12_known_48 (Γ : rhG) (M : rhM) (v1 : Int32) : Option (Int32 × rhM) :=
  if v1 < 0 then
    (some ((0, M)))
  else
    some ((v1, M))
def f_X12_known_37 (Γ : rhG) (M : rhM) (v0 : Nat) (v1 : Int32) : Option (Int32 × rhM) :=
  rhck (Γ.2.2.1 v0 = 13) <|
  (f_X12_isGood Γ M v0).bind fun r8 =>
  if r8 = 0 then
    (f_X12_known_48 Γ M v1)
  else
    (f_X12_goOn Γ M v0).bind fun r11 =>
    f_X12_known_48 Γ r11 v1
def f_X12_known (Γ : rhG) (M : rhM) (v0 : Nat) (v1 : Int32) : Option (Int32 × rhM) :=
  rhck (Γ.2.2.1 v0 = 13) <|
  (f_X12_isGood Γ M v0).bind fun r2 =>
  if r2 = 0 then
    (some ((0, M)))
  else
    if (M.1 v0 8) = 2 then
      (if v1 < 0 then
        ((f_X12_fails Γ M v0 (5 : Int32) (M.1 v0 6)).bind fun r6 =>
        f_X12_known_37 Γ r6 v0 v1)
      else
        f_X12_known_37 Γ M v0 v1)
    else
      (f_X12_misplaced Γ M v0).bind fun r12 =>
      f_X12_known_37 Γ r12 v0 v1
set_option maxHeartbeats 4000000 in
set_option maxRecDepth 100000 in
theorem b_X12_known_48 {E : rhE} {Γ : rhG} : ∀ (M : rhM) (v1 : Int32), rhF E 6 2 yX12_known cX12_known (some .int) Γ (rhe1I Γ) (f_X12_known_48 Γ M v1) 48 [(1, rhI v1)] [] Γ M := by
  intro M v1
  rw [f_X12_known_48]
  refine rhF.iload_n (pc := 48) dX12_known_48 0 rfl ?_
  refine rhF.if_ge (pc := 49) 56 dX12_known_49 (by decide) (fun h10 => ?_) (fun h10 => ?_)
  · refine rhF.iconst (pc := 52) (v := 0) dX12_known_52 (by decide) ?_
    refine rhF.goto (pc := 53) 57 dX12_known_53 (by decide) ?_
    exact rhF.zret (pc := 57) dX12_known_57 rfl rfl rfl
  · refine rhF.iload_n (pc := 56) dX12_known_56 0 rfl ?_
    exact rhF.zret (pc := 57) dX12_known_57 rfl rfl rfl
set_option maxHeartbeats 4000000 in
set_option maxRecDepth 100000 in
theorem b_X12_known_37 {E : rhE} {Γ : rhG} : ∀ (M : rhM) (v0 : Nat) (v1 : Int32), rhF E 6 2 yX12_known cX12_known (some .int) Γ (rhe1I Γ) (f_X12_known_37 Γ M v0 v1) 37 [(0, rhR v0), (1, rhI v1)] [] Γ M := by
  intro M v0 v1
  rw [f_X12_known_37]
  refine rhF.aload_n (pc := 37) dX12_known_37 0 rfl ?_
  refine rhF.ck (fun h7 => ?_)
  refine rhF.callV (pc := 38) (ci := 12) (embc := rhe0I _ _) [] dX12_known_38 ml_X12_294 mv_X12_isGood ⟨_, rfl, rfl⟩ h7 (c_X12_isGood _ _ _ _) (by decide) (by decide) rfl (Nat.le_of_ble_eq_true rfl) (fun r8 _ => ?_)
  refine rhF.if_eq (pc := 41) 48 dX12_known_41 (by decide) (fun h9 => ?_) (fun h9 => ?_)
  · refine rhF.sub [1] rfl ?_
    exact (b_X12_known_48) _ _
  · refine rhF.aload_n (pc := 44) dX12_known_44 0 rfl ?_
    refine rhF.callV (pc := 45) (ci := 12) (embc := rhe1U _) [] dX12_known_45 ml_X12_298 mv_X12_goOn ⟨_, rfl, rfl⟩ h7 (c_X12_goOn _ _ _ _) (by decide) (by decide) rfl (Nat.le_of_ble_eq_true rfl) (fun r11 _ => ?_)
    refine rhF.sub [1] rfl ?_
    exact (b_X12_known_48) _ _
set_option maxHeartbeats 4000000 in
set_option maxRecDepth 100000 in
theorem b_X12_known {E : rhE} {Γ : rhG} : ∀ (M : rhM) (v0 : Nat) (v1 : Int32), rhF E 6 2 yX12_known cX12_known (some .int) Γ (rhe1I Γ) (f_X12_known Γ M v0 v1) 0 [(0, rhR v0), (1, rhI v1)] [] Γ M := by
  intro M v0 v1
  rw [f_X12_known]
  refine rhF.aload_n (pc := 0) dX12_known_0 0 rfl ?_
  refine rhF.ck (fun h1 => ?_)
  refine rhF.callV (pc := 1) (ci := 12) (embc := rhe0I _ _) [] dX12_known_1 ml_X12_294 mv_X12_isGood ⟨_, rfl, rfl⟩ h1 (c_X12_isGood _ _ _ _) (by decide) (by decide) rfl (Nat.le_of_ble_eq_true rfl) (fun r2 _ => ?_)
  refine rhF.if_ne (pc := 4) 9 dX12_known_4 (by decide) (fun h3 => ?_) (fun h3 => ?_)
  · refine rhF.iconst (pc := 7) (v := 0) dX12_known_7 (by decide) ?_
    exact rhF.zret (pc := 8) dX12_known_8 rfl rfl rfl
  · refine rhF.aload_n (pc := 9) dX12_known_9 0 rfl ?_
    refine rhF.get (pc := 10) (rhI _) dX12_known_10 fl_X12_266 h1 rfl ?_
    refine rhF.iconst (pc := 13) (v := 2) dX12_known_13 (by decide) ?_
    refine rhF.icmp_eq (pc := 14) 24 dX12_known_14 (by decide) (fun h4 => ?_) (fun h4 => ?_)
    · refine rhF.iload_n (pc := 24) dX12_known_24 1 rfl ?_
      refine rhF.if_ge (pc := 25) 37 dX12_known_25 (by decide) (fun h5 => ?_) (fun h5 => ?_)
      · refine rhF.aload_n (pc := 28) dX12_known_28 0 rfl ?_
        refine rhF.iconst (pc := 29) (v := 5) dX12_known_29 (by decide) ?_
        refine rhF.aload_n (pc := 30) dX12_known_30 0 rfl ?_
        refine rhF.get (pc := 31) (rhI _) dX12_known_31 fl_X12_259 h1 rfl ?_
        refine rhF.callV (pc := 34) (ci := 12) (embc := rhe1U _) [rhI _, rhI _] dX12_known_34 ml_X12_290 mv_X12_fails ⟨_, rfl, rfl⟩ h1 (c_X12_fails _ _ _ _ _ _) (by decide) (by decide) rfl (Nat.le_of_ble_eq_true rfl) (fun r6 _ => ?_)
        exact (b_X12_known_37) _ _ _
      · exact (b_X12_known_37) _ _ _
    · refine rhF.aload_n (pc := 17) dX12_known_17 0 rfl ?_
      refine rhF.callV (pc := 18) (ci := 12) (embc := rhe1U _) [] dX12_known_18 ml_X12_301 mv_X12_misplaced ⟨_, rfl, rfl⟩ h1 (c_X12_misplaced _ _ _ _) (by decide) (by decide) rfl (Nat.le_of_ble_eq_true rfl) (fun r12 _ => ?_)
      refine rhF.goto (pc := 21) 37 dX12_known_21 (by decide) ?_
      exact (b_X12_known_37) _ _ _
theorem c_X12_known (E : rhE) (Γ : rhG) (M : rhM) (v0 : Nat) (v1 : Int32) : ∀ a, f_X12_known Γ M v0 v1 = some a → rhC E 6 yX12_known cX12_known 2 (some .int) [rhR v0, rhI v1] Γ M ((rhe1I Γ) a) := rhF.met (by decide +kernel) (Nat.le_of_ble_eq_true rfl) (b_X12_known M v0 v1)
def f_X12_wordHere (Γ : rhG) (M : rhM) (v0 : Nat) : Option (Int32) :=
  rhck (Γ.2.2.1 v0 = 13) <|
  (f_X12_isWord Γ M v0 ((1835101817 : Int64))).bind fun r2 =>
  if r2 = 0 then
    ((f_X12_isWord Γ M v0 ((131277443786868 : Int64))).bind fun r4 =>
    if r4 = 0 then
      ((f_X12_isWord Γ M v0 ((119182899770472 : Int64))).bind fun r6 =>
      if r6 = 0 then
        ((f_X12_isWord Γ M v0 ((1718775661 : Int64))).bind fun r8 =>
        if r8 = 0 then
          ((f_X12_isWord Γ M v0 ((29807 : Int64))).bind fun r10 =>
          if r10 = 0 then
            ((f_X12_isWord Γ M v0 ((1919905645 : Int64))).bind fun r12 =>
            if r12 = 0 then
              ((f_X12_isWord Γ M v0 ((499850634611 : Int64))).bind fun r14 =>
              if r14 = 0 then
                (some 0)
              else
                some 104)
            else
              some 114)
          else
            some 116)
        else
          some 102)
      else
        some 108)
    else
      some 119)
  else
    some 109
set_option maxHeartbeats 4000000 in
set_option maxRecDepth 100000 in
theorem b_X12_wordHere {E : rhE} {Γ : rhG} {M : rhM} : ∀ (v0 : Nat), rhF E 5 1 yX12_wordHere cX12_wordHere (some .int) Γ (rhe0I Γ M) (f_X12_wordHere Γ M v0) 0 [(0, rhR v0)] [] Γ M := by
  intro v0
  rw [f_X12_wordHere]
  refine rhF.aload_n (pc := 0) dX12_wordHere_0 0 rfl ?_
  refine rhF.ldc2 (pc := 1) dX12_wordHere_1 k_X12_240 ?_
  refine rhF.ck (fun h1 => ?_)
  refine rhF.callV (pc := 4) (ci := 12) (embc := rhe0I _ _) [rhJ _] dX12_wordHere_4 ml_X12_304 mv_X12_isWord ⟨_, rfl, rfl⟩ h1 (c_X12_isWord _ _ _ _ _) (by decide) (by decide) rfl (Nat.le_of_ble_eq_true rfl) (fun r2 _ => ?_)
  refine rhF.if_eq (pc := 7) 13 dX12_wordHere_7 (by decide) (fun h3 => ?_) (fun h3 => ?_)
  · refine rhF.aload_n (pc := 13) dX12_wordHere_13 0 rfl ?_
    refine rhF.ldc2 (pc := 14) dX12_wordHere_14 k_X12_226 ?_
    refine rhF.callV (pc := 17) (ci := 12) (embc := rhe0I _ _) [rhJ _] dX12_wordHere_17 ml_X12_304 mv_X12_isWord ⟨_, rfl, rfl⟩ h1 (c_X12_isWord _ _ _ _ _) (by decide) (by decide) rfl (Nat.le_of_ble_eq_true rfl) (fun r4 _ => ?_)
    refine rhF.if_eq (pc := 20) 26 dX12_wordHere_20 (by decide) (fun h5 => ?_) (fun h5 => ?_)
    · refine rhF.aload_n (pc := 26) dX12_wordHere_26 0 rfl ?_
      refine rhF.ldc2 (pc := 27) dX12_wordHere_27 k_X12_222 ?_
      refine rhF.callV (pc := 30) (ci := 12) (embc := rhe0I _ _) [rhJ _] dX12_wordHere_30 ml_X12_304 mv_X12_isWord ⟨_, rfl, rfl⟩ h1 (c_X12_isWord _ _ _ _ _) (by decide) (by decide) rfl (Nat.le_of_ble_eq_true rfl) (fun r6 _ => ?_)
      refine rhF.if_eq (pc := 33) 39 dX12_wordHere_33 (by decide) (fun h7 => ?_) (fun h7 => ?_)
      · refine rhF.aload_n (pc := 39) dX12_wordHere_39 0 rfl ?_
        refine rhF.ldc2 (pc := 40) dX12_wordHere_40 k_X12_242 ?_
        refine rhF.callV (pc := 43) (ci := 12) (embc := rhe0I _ _) [rhJ _] dX12_wordHere_43 ml_X12_304 mv_X12_isWord ⟨_, rfl, rfl⟩ h1 (c_X12_isWord _ _ _ _ _) (by decide) (by decide) rfl (Nat.le_of_ble_eq_true rfl) (fun r8 _ => ?_)
        refine rhF.if_eq (pc := 46) 52 dX12_wordHere_46 (by decide) (fun h9 => ?_) (fun h9 => ?_)
        · refine rhF.aload_n (pc := 52) dX12_wordHere_52 0 rfl ?_
          refine rhF.ldc2 (pc := 53) dX12_wordHere_53 k_X12_244 ?_
          refine rhF.callV (pc := 56) (ci := 12) (embc := rhe0I _ _) [rhJ _] dX12_wordHere_56 ml_X12_304 mv_X12_isWord ⟨_, rfl, rfl⟩ h1 (c_X12_isWord _ _ _ _ _) (by decide) (by decide) rfl (Nat.le_of_ble_eq_true rfl) (fun r10 _ => ?_)
          refine rhF.if_eq (pc := 59) 65 dX12_wordHere_59 (by decide) (fun h11 => ?_) (fun h11 => ?_)
          · refine rhF.aload_n (pc := 65) dX12_wordHere_65 0 rfl ?_
            refine rhF.ldc2 (pc := 66) dX12_wordHere_66 k_X12_246 ?_
            refine rhF.callV (pc := 69) (ci := 12) (embc := rhe0I _ _) [rhJ _] dX12_wordHere_69 ml_X12_304 mv_X12_isWord ⟨_, rfl, rfl⟩ h1 (c_X12_isWord _ _ _ _ _) (by decide) (by decide) rfl (Nat.le_of_ble_eq_true rfl) (fun r12 _ => ?_)
            refine rhF.if_eq (pc := 72) 78 dX12_wordHere_72 (by decide) (fun h13 => ?_) (fun h13 => ?_)
            · refine rhF.aload_n (pc := 78) dX12_wordHere_78 0 rfl ?_
              refine rhF.ldc2 (pc := 79) dX12_wordHere_79 k_X12_248 ?_
              refine rhF.callV (pc := 82) (ci := 12) (embc := rhe0I _ _) [rhJ _] dX12_wordHere_82 ml_X12_304 mv_X12_isWord ⟨_, rfl, rfl⟩ h1 (c_X12_isWord _ _ _ _ _) (by decide) (by decide) rfl (Nat.le_of_ble_eq_true rfl) (fun r14 _ => ?_)
              refine rhF.if_eq (pc := 85) 93 dX12_wordHere_85 (by decide) (fun h15 => ?_) (fun h15 => ?_)
              · refine rhF.iconst (pc := 93) (v := 0) dX12_wordHere_93 (by decide) ?_
                exact rhF.zret (pc := 94) dX12_wordHere_94 rfl rfl rfl
              · refine rhF.bipush (pc := 88) (v := 104) dX12_wordHere_88 (by decide) ?_
                refine rhF.goto (pc := 90) 94 dX12_wordHere_90 (by decide) ?_
                exact rhF.zret (pc := 94) dX12_wordHere_94 rfl rfl rfl
            · refine rhF.bipush (pc := 75) (v := 114) dX12_wordHere_75 (by decide) ?_
              exact rhF.zret (pc := 77) dX12_wordHere_77 rfl rfl rfl
          · refine rhF.bipush (pc := 62) (v := 116) dX12_wordHere_62 (by decide) ?_
            exact rhF.zret (pc := 64) dX12_wordHere_64 rfl rfl rfl
        · refine rhF.bipush (pc := 49) (v := 102) dX12_wordHere_49 (by decide) ?_
          exact rhF.zret (pc := 51) dX12_wordHere_51 rfl rfl rfl
      · refine rhF.bipush (pc := 36) (v := 108) dX12_wordHere_36 (by decide) ?_
        exact rhF.zret (pc := 38) dX12_wordHere_38 rfl rfl rfl
    · refine rhF.bipush (pc := 23) (v := 119) dX12_wordHere_23 (by decide) ?_
      exact rhF.zret (pc := 25) dX12_wordHere_25 rfl rfl rfl
  · refine rhF.bipush (pc := 10) (v := 109) dX12_wordHere_10 (by decide) ?_
    exact rhF.zret (pc := 12) dX12_wordHere_12 rfl rfl rfl
theorem c_X12_wordHere (E : rhE) (Γ : rhG) (M : rhM) (v0 : Nat) : ∀ a, f_X12_wordHere Γ M v0 = some a → rhC E 5 yX12_wordHere cX12_wordHere 1 (some .int) [rhR v0] Γ M ((rhe0I Γ M) a) := rhF.met (by decide +kernel) (Nat.le_of_ble_eq_true rfl) (b_X12_wordHere v0)
def f_X12_unit_55 (k56 : rhM → Nat → Int32 → Option (Int32 × rhM)) (Γ : rhG) (M : rhM) (v0 : Nat) : Option (Int32 × rhM) :=
  k56 M v0 0
def f_X12_unit_91 (k105 : rhM → Nat → Int32 → Int32 → Int32 → Option (Int32 × rhM)) (k122 : rhM → Nat → Int32 → Int32 → Int32 → Option (Int32 × rhM)) (Γ : rhG) (M : rhM) (v0 : Nat) (v2 : Int32) (v3 : Int32) (v4 : Int32) : Option (Int32 × rhM) :=
  rhck (Γ.2.2.1 v0 = 13) <|
  rhck (Γ.2.2.1 (M.2.2 v0 14) = 15) <|
  rhck (0 ≤ (M.1 v0 35).toInt ∧ (M.1 v0 35).toInt < (Γ.2.2.2 (M.2.2 v0 14) : Nat)) <|
  if (M.1 (M.2.2 v0 14) (M.1 v0 35).toNatClampNeg) = 40 then
    (k122 M v0 v2 v3 v4)
  else
    k105 M v0 v2 v3 v4
def f_X12_unit_113 (k122 : rhM → Nat → Int32 → Int32 → Int32 → Option (Int32 × rhM)) (k126 : rhM → Nat → Int32 → Int32 → Int32 → Option (Int32 × rhM)) (Γ : rhG) (M : rhM) (v0 : Nat) (v2 : Int32) (v3 : Int32) (v4 : Int32) : Option (Int32 × rhM) :=
  rhck (Γ.2.2.1 v0 = 13) <|
  if (M.1 v0 37) = 7 then
    (k122 M v0 v2 v3 v4)
  else
    k126 M v0 v2 v3 v4
def f_X12_unit_105 (k122 : rhM → Nat → Int32 → Int32 → Int32 → Option (Int32 × rhM)) (k126 : rhM → Nat → Int32 → Int32 → Int32 → Option (Int32 × rhM)) (Γ : rhG) (M : rhM) (v0 : Nat) (v2 : Int32) (v3 : Int32) (v4 : Int32) : Option (Int32 × rhM) :=
  if v2 = 0 then
    (if v3 = 0 then
      (k126 M v0 v2 v3 v4)
    else
      f_X12_unit_113 k122 k126 Γ M v0 v2 v3 v4)
  else
    f_X12_unit_113 k122 k126 Γ M v0 v2 v3 v4
def f_X12_unit_122 (k126 : rhM → Nat → Int32 → Int32 → Int32 → Option (Int32 × rhM)) (Γ : rhG) (M : rhM) (v0 : Nat) (v2 : Int32) (v3 : Int32) (v4 : Int32) : Option (Int32 × rhM) :=
  rhck (Γ.2.2.1 v0 = 13) <|
  (f_X12_misplaced Γ M v0).bind fun r22 =>
  k126 r22 v0 v2 v3 v4
def f_X12_unit_241 (Γ : rhG) (M : rhM) (v5 : Int32) (s0 : Nat) (s1 : Int32) : Option (Int32 × rhM) :=
  rhck (Γ.2.2.1 s0 = 13) <|
  (f_X12_emit Γ M s0 s1 v5).bind fun r44 =>
  some ((0, r44))
def f_X12_unit_228 (Γ : rhG) (M : rhM) (v0 : Nat) (v4 : Int32) (v5 : Int32) : Option (Int32 × rhM) :=
  if v4 = 0 then
    (f_X12_unit_241 Γ M v5 v0 110)
  else
    f_X12_unit_241 Γ M v5 v0 v4
def f_X12_unit_194 (Γ : rhG) (M : rhM) (v0 : Nat) (s0 : Nat) (s1 : Int32) : Option (Int32 × rhM) :=
  rhck (Γ.2.2.1 s0 = 13) <|
  (f_X12_pushE Γ M s0 s1 (126 : Int32)).bind fun r47 =>
  rhck (Γ.2.2.1 v0 = 13) <|
  let M49 := rhsi r47 v0 37 ((r47.1 v0 37) + 1)
  some ((1, M49))
def f_X12_unit_183 (Γ : rhG) (M : rhM) (v0 : Nat) (v2 : Int32) : Option (Int32 × rhM) :=
  if v2 = 0 then
    (f_X12_unit_194 Γ M v0 v0 7)
  else
    f_X12_unit_194 Γ M v0 v0 3
def f_X12_unit_169 (Γ : rhG) (M : rhM) (v0 : Nat) (v2 : Int32) (v3 : Int32) (v4 : Int32) (s0 : Int32) : Option (Int32 × rhM) :=
  rhck (Γ.2.2.1 v0 = 13) <|
  (f_X12_goOn Γ M v0).bind fun r35 =>
  if v2 = 0 then
    (if v3 = 0 then
      (if v4 = 104 then
        ((f_X12_houseHere Γ r35 v0).bind fun r39 =>
        (f_X12_known Γ r35 v0 r39).bind fun r40 =>
        let x41 := r40.1
        f_X12_unit_228 Γ r40.2 v0 v4 x41)
      else
        f_X12_unit_228 Γ r35 v0 v4 s0)
    else
      f_X12_unit_183 Γ r35 v0 v2)
  else
    f_X12_unit_183 Γ r35 v0 v2
def f_X12_unit_154 (Γ : rhG) (M : rhM) (v0 : Nat) (v2 : Int32) (v3 : Int32) (v4 : Int32) (s0 : Nat) (s1 : Int32) (s2 : Int32) (s3 : Int32) : Option (Int32 × rhM) :=
  rhck (Γ.2.2.1 s0 = 15) <|
  rhck (0 ≤ (s1).toInt ∧ (s1).toInt < (Γ.2.2.2 s0 : Nat)) <|
  let M31 := rhsi M s0 (s1 : Int32).toNatClampNeg (s2 + s3)
  if v4 = 0 then
    (rhck (Γ.2.2.1 v0 = 13) <|
    f_X12_unit_169 Γ M31 v0 v2 v3 v4 (M31.1 v0 9))
  else
    f_X12_unit_169 Γ M31 v0 v2 v3 v4 0
def f_X12_unit_126 (Γ : rhG) (M : rhM) (v0 : Nat) (v2 : Int32) (v3 : Int32) (v4 : Int32) : Option (Int32 × rhM) :=
  rhck (Γ.2.2.1 v0 = 13) <|
  (f_X12_isGood Γ M v0).bind fun r24 =>
  if r24 = 0 then
    (some ((1, M)))
  else
    rhck (Γ.2.2.1 (M.2.2 v0 14) = 15) <|
    rhck (0 ≤ (M.1 v0 35).toInt ∧ (M.1 v0 35).toInt < (Γ.2.2.2 (M.2.2 v0 14) : Nat)) <|
    if v2 = 0 then
      (f_X12_unit_154 Γ M v0 v2 v3 v4 (M.2.2 v0 14) (M.1 v0 35) (M.1 (M.2.2 v0 14) (M.1 v0 35).toNatClampNeg) 1)
    else
      f_X12_unit_154 Γ M v0 v2 v3 v4 (M.2.2 v0 14) (M.1 v0 35) (M.1 (M.2.2 v0 14) (M.1 v0 35).toNatClampNeg) 0
def f_X12_unit_56 (Γ : rhG) (M : rhM) (v0 : Nat) (s0 : Int32) : Option (Int32 × rhM) :=
  rhck (Γ.2.2.1 v0 = 13) <|
  (f_X12_stands Γ M v0 (40 : Int32)).bind fun r8 =>
  (f_X12_wordHere Γ M v0).bind fun r9 =>
  if s0 = 0 then
    (if r9 = 0 then
      (if (M.1 v0 8) = 4 then
        (f_X12_unit_91 (f_X12_unit_105 (f_X12_unit_122 (f_X12_unit_126 Γ) Γ) (f_X12_unit_126 Γ) Γ) (f_X12_unit_122 (f_X12_unit_126 Γ) Γ) Γ M v0 s0 r8 r9)
      else
        if r8 = 0 then
          (f_X12_unit_122 (f_X12_unit_126 Γ) Γ M v0 s0 r8 r9)
        else
          f_X12_unit_91 (f_X12_unit_105 (f_X12_unit_122 (f_X12_unit_126 Γ) Γ) (f_X12_unit_126 Γ) Γ) (f_X12_unit_122 (f_X12_unit_126 Γ) Γ) Γ M v0 s0 r8 r9)
    else
      f_X12_unit_91 (f_X12_unit_105 (f_X12_unit_122 (f_X12_unit_126 Γ) Γ) (f_X12_unit_126 Γ) Γ) (f_X12_unit_122 (f_X12_unit_126 Γ) Γ) Γ M v0 s0 r8 r9)
  else
    f_X12_unit_105 (f_X12_unit_122 (f_X12_unit_126 Γ) Γ) (f_X12_unit_126 Γ) Γ M v0 s0 r8 r9
def f_X12_unit_36 (Γ : rhG) (M : rhM) (v0 : Nat) (s0 : Int32) : Option (Int32 × rhM) :=
  if s0 = 0 then
    (f_X12_unit_55 (f_X12_unit_56 Γ) Γ M v0)
  else
    rhck (Γ.2.2.1 v0 = 13) <|
    (f_X12_isWord Γ M v0 ((7237492 : Int64))).bind fun r52 =>
    if r52 = 0 then
      (f_X12_unit_55 (f_X12_unit_56 Γ) Γ M v0)
    else
      f_X12_unit_56 Γ M v0 1
def f_X12_unit_31 (k36 : rhM → Nat → Int32 → Option (Int32 × rhM)) (Γ : rhG) (M : rhM) (v0 : Nat) : Option (Int32 × rhM) :=
  k36 M v0 1
def f_X12_unit (Γ : rhG) (M : rhM) (v0 : Nat) : Option (Int32 × rhM) :=
  rhck (Γ.2.2.1 v0 = 13) <|
  rhck (Γ.2.2.1 (M.2.2 v0 31) = 15) <|
  rhck (0 ≤ ((M.1 v0 38) - 1).toInt ∧ ((M.1 v0 38) - 1).toInt < (Γ.2.2.2 (M.2.2 v0 31) : Nat)) <|
  if 3 < (M.1 (M.2.2 v0 31) ((M.1 v0 38) - 1).toNatClampNeg) then
    (if (M.1 (M.2.2 v0 31) ((M.1 v0 38) - 1).toNatClampNeg) < 7 then
      (f_X12_unit_36 Γ M v0 0)
    else
      f_X12_unit_31 (f_X12_unit_36 Γ) Γ M v0)
  else
    f_X12_unit_31 (f_X12_unit_36 Γ) Γ M v0
set_option maxHeartbeats 4000000 in
set_option maxRecDepth 100000 in
theorem b_X12_unit_55 {E : rhE} {Γ : rhG} {k56 : rhM → Nat → Int32 → Option (Int32 × rhM)} (hk56 : ∀ (M : rhM) (v0 : Nat) (s0 : Int32), rhF E 7 6 yX12_unit cX12_unit (some .boolean) Γ (rhe1I Γ) (k56 M v0 s0) 56 [(0, rhR v0)] [rhI s0] Γ M) : ∀ (M : rhM) (v0 : Nat), rhF E 7 6 yX12_unit cX12_unit (some .boolean) Γ (rhe1I Γ) (f_X12_unit_55 k56 Γ M v0) 55 [(0, rhR v0)] [] Γ M := by
  intro M v0
  rw [f_X12_unit_55]
  refine rhF.iconst (pc := 55) (v := 0) dX12_unit_55 (by decide) ?_
  exact hk56 _ _ _
set_option maxHeartbeats 4000000 in
set_option maxRecDepth 100000 in
theorem b_X12_unit_91 {E : rhE} {Γ : rhG} {k105 : rhM → Nat → Int32 → Int32 → Int32 → Option (Int32 × rhM)} {k122 : rhM → Nat → Int32 → Int32 → Int32 → Option (Int32 × rhM)} (hk105 : ∀ (M : rhM) (v0 : Nat) (v2 : Int32) (v3 : Int32) (v4 : Int32), rhF E 7 6 yX12_unit cX12_unit (some .boolean) Γ (rhe1I Γ) (k105 M v0 v2 v3 v4) 105 [(0, rhR v0), (2, rhI v2), (3, rhI v3), (4, rhI v4)] [] Γ M) (hk122 : ∀ (M : rhM) (v0 : Nat) (v2 : Int32) (v3 : Int32) (v4 : Int32), rhF E 7 6 yX12_unit cX12_unit (some .boolean) Γ (rhe1I Γ) (k122 M v0 v2 v3 v4) 122 [(0, rhR v0), (2, rhI v2), (3, rhI v3), (4, rhI v4)] [] Γ M) : ∀ (M : rhM) (v0 : Nat) (v2 : Int32) (v3 : Int32) (v4 : Int32), rhF E 7 6 yX12_unit cX12_unit (some .boolean) Γ (rhe1I Γ) (f_X12_unit_91 k105 k122 Γ M v0 v2 v3 v4) 91 [(0, rhR v0), (2, rhI v2), (3, rhI v3), (4, rhI v4)] [] Γ M := by
  intro M v0 v2 v3 v4
  rw [f_X12_unit_91]
  refine rhF.aload_n (pc := 91) dX12_unit_91 0 rfl ?_
  refine rhF.ck (fun h13 => ?_)
  refine rhF.get (pc := 92) (rhR _) dX12_unit_92 fl_X12_30 h13 rfl ?_
  refine rhF.aload_n (pc := 95) dX12_unit_95 0 rfl ?_
  refine rhF.get (pc := 96) (rhI _) dX12_unit_96 fl_X12_318 h13 rfl ?_
  refine rhF.ck (fun h14 => ?_)
  refine rhF.ck (fun h15 => ?_)
  refine rhF.iald (pc := 99) dX12_unit_99 h14 h15 ?_
  refine rhF.bipush (pc := 100) (v := 40) dX12_unit_100 (by decide) ?_
  refine rhF.icmp_eq (pc := 102) 122 dX12_unit_102 (by decide) (fun h16 => ?_) (fun h16 => ?_)
  · exact hk122 _ _ _ _ _
  · exact hk105 _ _ _ _ _
set_option maxHeartbeats 4000000 in
set_option maxRecDepth 100000 in
theorem b_X12_unit_113 {E : rhE} {Γ : rhG} {k122 : rhM → Nat → Int32 → Int32 → Int32 → Option (Int32 × rhM)} {k126 : rhM → Nat → Int32 → Int32 → Int32 → Option (Int32 × rhM)} (hk122 : ∀ (M : rhM) (v0 : Nat) (v2 : Int32) (v3 : Int32) (v4 : Int32), rhF E 7 6 yX12_unit cX12_unit (some .boolean) Γ (rhe1I Γ) (k122 M v0 v2 v3 v4) 122 [(0, rhR v0), (2, rhI v2), (3, rhI v3), (4, rhI v4)] [] Γ M) (hk126 : ∀ (M : rhM) (v0 : Nat) (v2 : Int32) (v3 : Int32) (v4 : Int32), rhF E 7 6 yX12_unit cX12_unit (some .boolean) Γ (rhe1I Γ) (k126 M v0 v2 v3 v4) 126 [(0, rhR v0), (2, rhI v2), (3, rhI v3), (4, rhI v4)] [] Γ M) : ∀ (M : rhM) (v0 : Nat) (v2 : Int32) (v3 : Int32) (v4 : Int32), rhF E 7 6 yX12_unit cX12_unit (some .boolean) Γ (rhe1I Γ) (f_X12_unit_113 k122 k126 Γ M v0 v2 v3 v4) 113 [(0, rhR v0), (2, rhI v2), (3, rhI v3), (4, rhI v4)] [] Γ M := by
  intro M v0 v2 v3 v4
  rw [f_X12_unit_113]
  refine rhF.aload_n (pc := 113) dX12_unit_113 0 rfl ?_
  refine rhF.ck (fun h19 => ?_)
  refine rhF.get (pc := 114) (rhI _) dX12_unit_114 fl_X12_388 h19 rfl ?_
  refine rhF.bipush (pc := 117) (v := 7) dX12_unit_117 (by decide) ?_
  refine rhF.icmp_ne (pc := 119) 126 dX12_unit_119 (by decide) (fun h20 => ?_) (fun h20 => ?_)
  · exact hk122 _ _ _ _ _
  · exact hk126 _ _ _ _ _
set_option maxHeartbeats 4000000 in
set_option maxRecDepth 100000 in
theorem b_X12_unit_105 {E : rhE} {Γ : rhG} {k122 : rhM → Nat → Int32 → Int32 → Int32 → Option (Int32 × rhM)} {k126 : rhM → Nat → Int32 → Int32 → Int32 → Option (Int32 × rhM)} (hk122 : ∀ (M : rhM) (v0 : Nat) (v2 : Int32) (v3 : Int32) (v4 : Int32), rhF E 7 6 yX12_unit cX12_unit (some .boolean) Γ (rhe1I Γ) (k122 M v0 v2 v3 v4) 122 [(0, rhR v0), (2, rhI v2), (3, rhI v3), (4, rhI v4)] [] Γ M) (hk126 : ∀ (M : rhM) (v0 : Nat) (v2 : Int32) (v3 : Int32) (v4 : Int32), rhF E 7 6 yX12_unit cX12_unit (some .boolean) Γ (rhe1I Γ) (k126 M v0 v2 v3 v4) 126 [(0, rhR v0), (2, rhI v2), (3, rhI v3), (4, rhI v4)] [] Γ M) : ∀ (M : rhM) (v0 : Nat) (v2 : Int32) (v3 : Int32) (v4 : Int32), rhF E 7 6 yX12_unit cX12_unit (some .boolean) Γ (rhe1I Γ) (f_X12_unit_105 k122 k126 Γ M v0 v2 v3 v4) 105 [(0, rhR v0), (2, rhI v2), (3, rhI v3), (4, rhI v4)] [] Γ M := by
  intro M v0 v2 v3 v4
  rw [f_X12_unit_105]
  refine rhF.iload_n (pc := 105) dX12_unit_105 1 rfl ?_
  refine rhF.if_ne (pc := 106) 113 dX12_unit_106 (by decide) (fun h17 => ?_) (fun h17 => ?_)
  · refine rhF.iload_n (pc := 109) dX12_unit_109 2 rfl ?_
    refine rhF.if_eq (pc := 110) 126 dX12_unit_110 (by decide) (fun h18 => ?_) (fun h18 => ?_)
    · exact hk126 _ _ _ _ _
    · exact (b_X12_unit_113 hk122 hk126) _ _ _ _ _
  · exact (b_X12_unit_113 hk122 hk126) _ _ _ _ _
set_option maxHeartbeats 4000000 in
set_option maxRecDepth 100000 in
theorem b_X12_unit_122 {E : rhE} {Γ : rhG} {k126 : rhM → Nat → Int32 → Int32 → Int32 → Option (Int32 × rhM)} (hk126 : ∀ (M : rhM) (v0 : Nat) (v2 : Int32) (v3 : Int32) (v4 : Int32), rhF E 7 6 yX12_unit cX12_unit (some .boolean) Γ (rhe1I Γ) (k126 M v0 v2 v3 v4) 126 [(0, rhR v0), (2, rhI v2), (3, rhI v3), (4, rhI v4)] [] Γ M) : ∀ (M : rhM) (v0 : Nat) (v2 : Int32) (v3 : Int32) (v4 : Int32), rhF E 7 6 yX12_unit cX12_unit (some .boolean) Γ (rhe1I Γ) (f_X12_unit_122 k126 Γ M v0 v2 v3 v4) 122 [(0, rhR v0), (2, rhI v2), (3, rhI v3), (4, rhI v4)] [] Γ M := by
  intro M v0 v2 v3 v4
  rw [f_X12_unit_122]
  refine rhF.aload_n (pc := 122) dX12_unit_122 0 rfl ?_
  refine rhF.ck (fun h21 => ?_)
  refine rhF.callV (pc := 123) (ci := 12) (embc := rhe1U _) [] dX12_unit_123 ml_X12_301 mv_X12_misplaced ⟨_, rfl, rfl⟩ h21 (c_X12_misplaced _ _ _ _) (by decide) (by decide) rfl (Nat.le_of_ble_eq_true rfl) (fun r22 _ => ?_)
  exact hk126 _ _ _ _ _
set_option maxHeartbeats 4000000 in
set_option maxRecDepth 100000 in
theorem b_X12_unit_241 {E : rhE} {Γ : rhG} : ∀ (M : rhM) (v5 : Int32) (s0 : Nat) (s1 : Int32), rhF E 7 6 yX12_unit cX12_unit (some .boolean) Γ (rhe1I Γ) (f_X12_unit_241 Γ M v5 s0 s1) 241 [(5, rhI v5)] [rhI s1, rhR s0] Γ M := by
  intro M v5 s0 s1
  rw [f_X12_unit_241]
  refine rhF.iload (pc := 241) dX12_unit_241 0 rfl ?_
  refine rhF.ck (fun h43 => ?_)
  refine rhF.callV (pc := 243) (ci := 12) (embc := rhe1U _) [rhI _, rhI _] dX12_unit_243 ml_X12_403 mv_X12_emit ⟨_, rfl, rfl⟩ h43 (c_X12_emit _ _ _ _ _ _) (by decide) (by decide) rfl (Nat.le_of_ble_eq_true rfl) (fun r44 _ => ?_)
  refine rhF.iconst (pc := 246) (v := 0) dX12_unit_246 (by decide) ?_
  exact rhF.zret (pc := 247) dX12_unit_247 rfl rfl rfl
set_option maxHeartbeats 4000000 in
set_option maxRecDepth 100000 in
theorem b_X12_unit_228 {E : rhE} {Γ : rhG} : ∀ (M : rhM) (v0 : Nat) (v4 : Int32) (v5 : Int32), rhF E 7 6 yX12_unit cX12_unit (some .boolean) Γ (rhe1I Γ) (f_X12_unit_228 Γ M v0 v4 v5) 228 [(0, rhR v0), (4, rhI v4), (5, rhI v5)] [] Γ M := by
  intro M v0 v4 v5
  rw [f_X12_unit_228]
  refine rhF.aload_n (pc := 228) dX12_unit_228 0 rfl ?_
  refine rhF.iload (pc := 229) dX12_unit_229 1 rfl ?_
  refine rhF.if_ne (pc := 231) 239 dX12_unit_231 (by decide) (fun h42 => ?_) (fun h42 => ?_)
  · refine rhF.bipush (pc := 234) (v := 110) dX12_unit_234 (by decide) ?_
    refine rhF.goto (pc := 236) 241 dX12_unit_236 (by decide) ?_
    refine rhF.sub [2] rfl ?_
    exact (b_X12_unit_241) _ _ _ _
  · refine rhF.iload (pc := 239) dX12_unit_239 1 rfl ?_
    refine rhF.sub [2] rfl ?_
    exact (b_X12_unit_241) _ _ _ _
set_option maxHeartbeats 4000000 in
set_option maxRecDepth 100000 in
theorem b_X12_unit_194 {E : rhE} {Γ : rhG} : ∀ (M : rhM) (v0 : Nat) (s0 : Nat) (s1 : Int32), rhF E 7 6 yX12_unit cX12_unit (some .boolean) Γ (rhe1I Γ) (f_X12_unit_194 Γ M v0 s0 s1) 194 [(0, rhR v0)] [rhI s1, rhR s0] Γ M := by
  intro M v0 s0 s1
  rw [f_X12_unit_194]
  refine rhF.bipush (pc := 194) (v := 126) dX12_unit_194 (by decide) ?_
  refine rhF.ck (fun h46 => ?_)
  refine rhF.callV (pc := 196) (ci := 12) (embc := rhe1U _) [rhI _, rhI _] dX12_unit_196 ml_X12_391 mv_X12_pushE ⟨_, rfl, rfl⟩ h46 (c_X12_pushE _ _ _ _ _ _) (by decide) (by decide) rfl (Nat.le_of_ble_eq_true rfl) (fun r47 _ => ?_)
  refine rhF.aload_n (pc := 199) dX12_unit_199 0 rfl ?_
  refine rhF.dupr (pc := 200) dX12_unit_200 ?_
  refine rhF.ck (fun h48 => ?_)
  refine rhF.get (pc := 201) (rhI _) dX12_unit_201 fl_X12_388 h48 rfl ?_
  refine rhF.iconst (pc := 204) (v := 1) dX12_unit_204 (by decide) ?_
  refine rhF.iadd (pc := 205) dX12_unit_205 ?_
  refine rhF.puti (pc := 206) dX12_unit_206 fl_X12_388 h48 (fun q hq => by cases hq; exact Or.inl rfl) ⟨rfl, rfl⟩ (fun _ => rfl) ?_
  refine rhF.iconst (pc := 209) (v := 1) dX12_unit_209 (by decide) ?_
  exact rhF.zret (pc := 210) dX12_unit_210 rfl rfl rfl
set_option maxHeartbeats 4000000 in
set_option maxRecDepth 100000 in
theorem b_X12_unit_183 {E : rhE} {Γ : rhG} : ∀ (M : rhM) (v0 : Nat) (v2 : Int32), rhF E 7 6 yX12_unit cX12_unit (some .boolean) Γ (rhe1I Γ) (f_X12_unit_183 Γ M v0 v2) 183 [(0, rhR v0), (2, rhI v2)] [] Γ M := by
  intro M v0 v2
  rw [f_X12_unit_183]
  refine rhF.aload_n (pc := 183) dX12_unit_183 0 rfl ?_
  refine rhF.iload_n (pc := 184) dX12_unit_184 1 rfl ?_
  refine rhF.if_eq (pc := 185) 192 dX12_unit_185 (by decide) (fun h45 => ?_) (fun h45 => ?_)
  · refine rhF.bipush (pc := 192) (v := 7) dX12_unit_192 (by decide) ?_
    refine rhF.sub [0] rfl ?_
    exact (b_X12_unit_194) _ _ _ _
  · refine rhF.iconst (pc := 188) (v := 3) dX12_unit_188 (by decide) ?_
    refine rhF.goto (pc := 189) 194 dX12_unit_189 (by decide) ?_
    refine rhF.sub [0] rfl ?_
    exact (b_X12_unit_194) _ _ _ _
set_option maxHeartbeats 4000000 in
set_option maxRecDepth 100000 in
theorem b_X12_unit_169 {E : rhE} {Γ : rhG} : ∀ (M : rhM) (v0 : Nat) (v2 : Int32) (v3 : Int32) (v4 : Int32) (s0 : Int32), rhF E 7 6 yX12_unit cX12_unit (some .boolean) Γ (rhe1I Γ) (f_X12_unit_169 Γ M v0 v2 v3 v4 s0) 169 [(0, rhR v0), (2, rhI v2), (3, rhI v3), (4, rhI v4)] [rhI s0] Γ M := by
  intro M v0 v2 v3 v4 s0
  rw [f_X12_unit_169]
  refine rhF.istore (pc := 169) (L' := [(5, rhI _), (0, rhR _), (2, rhI _), (3, rhI _), (4, rhI _)]) dX12_unit_169 (by decide) rfl ?_
  refine rhF.aload_n (pc := 171) dX12_unit_171 1 rfl ?_
  refine rhF.ck (fun h34 => ?_)
  refine rhF.callV (pc := 172) (ci := 12) (embc := rhe1U _) [] dX12_unit_172 ml_X12_298 mv_X12_goOn ⟨_, rfl, rfl⟩ h34 (c_X12_goOn _ _ _ _) (by decide) (by decide) rfl (Nat.le_of_ble_eq_true rfl) (fun r35 _ => ?_)
  refine rhF.iload_n (pc := 175) dX12_unit_175 2 rfl ?_
  refine rhF.if_ne (pc := 176) 183 dX12_unit_176 (by decide) (fun h36 => ?_) (fun h36 => ?_)
  · refine rhF.iload_n (pc := 179) dX12_unit_179 3 rfl ?_
    refine rhF.if_eq (pc := 180) 211 dX12_unit_180 (by decide) (fun h37 => ?_) (fun h37 => ?_)
    · refine rhF.iload (pc := 211) dX12_unit_211 4 rfl ?_
      refine rhF.bipush (pc := 213) (v := 104) dX12_unit_213 (by decide) ?_
      refine rhF.icmp_ne (pc := 215) 228 dX12_unit_215 (by decide) (fun h38 => ?_) (fun h38 => ?_)
      · refine rhF.aload_n (pc := 218) dX12_unit_218 1 rfl ?_
        refine rhF.aload_n (pc := 219) dX12_unit_219 1 rfl ?_
        refine rhF.callV (pc := 220) (ci := 12) (embc := rhe0I _ _) [] dX12_unit_220 ml_X12_376 mv_X12_houseHere ⟨_, rfl, rfl⟩ h34 (c_X12_houseHere _ _ _ _) (by decide) (by decide) rfl (Nat.le_of_ble_eq_true rfl) (fun r39 _ => ?_)
        refine rhF.callV (pc := 223) (ci := 12) (embc := rhe1I _) [rhI _] dX12_unit_223 ml_X12_379 mv_X12_known ⟨_, rfl, rfl⟩ h34 (c_X12_known _ _ _ _ _) (by decide) (by decide) rfl (Nat.le_of_ble_eq_true rfl) (fun r40 _ => ?_)
        refine rhF.istore (pc := 226) (L' := [(5, rhI _), (0, rhR _), (2, rhI _), (3, rhI _), (4, rhI _)]) dX12_unit_226 (by decide) rfl ?_
        refine rhF.sub [1, 4, 0] rfl ?_
        exact (b_X12_unit_228) _ _ _ _
      · refine rhF.sub [1, 4, 0] rfl ?_
        exact (b_X12_unit_228) _ _ _ _
    · refine rhF.sub [1, 2] rfl ?_
      exact (b_X12_unit_183) _ _ _
  · refine rhF.sub [1, 2] rfl ?_
    exact (b_X12_unit_183) _ _ _
set_option maxHeartbeats 4000000 in
set_option maxRecDepth 100000 in
theorem b_X12_unit_154 {E : rhE} {Γ : rhG} : ∀ (M : rhM) (v0 : Nat) (v2 : Int32) (v3 : Int32) (v4 : Int32) (s0 : Nat) (s1 : Int32) (s2 : Int32) (s3 : Int32), rhF E 7 6 yX12_unit cX12_unit (some .boolean) Γ (rhe1I Γ) (f_X12_unit_154 Γ M v0 v2 v3 v4 s0 s1 s2 s3) 154 [(0, rhR v0), (2, rhI v2), (3, rhI v3), (4, rhI v4)] [rhI s3, rhI s2, rhI s1, rhR s0] Γ M := by
  intro M v0 v2 v3 v4 s0 s1 s2 s3
  rw [f_X12_unit_154]
  refine rhF.iadd (pc := 154) dX12_unit_154 ?_
  refine rhF.ck (fun h29 => ?_)
  refine rhF.ck (fun h30 => ?_)
  refine rhF.iast (pc := 155) dX12_unit_155 h29 h30 ?_
  refine rhF.iload (pc := 156) dX12_unit_156 3 rfl ?_
  refine rhF.if_ne (pc := 158) 168 dX12_unit_158 (by decide) (fun h32 => ?_) (fun h32 => ?_)
  · refine rhF.aload_n (pc := 161) dX12_unit_161 0 rfl ?_
    refine rhF.ck (fun h33 => ?_)
    refine rhF.get (pc := 162) (rhI _) dX12_unit_162 fl_X12_284 h33 rfl ?_
    refine rhF.goto (pc := 165) 169 dX12_unit_165 (by decide) ?_
    exact (b_X12_unit_169) _ _ _ _ _ _
  · refine rhF.iconst (pc := 168) (v := 0) dX12_unit_168 (by decide) ?_
    exact (b_X12_unit_169) _ _ _ _ _ _
set_option maxHeartbeats 4000000 in
set_option maxRecDepth 100000 in
theorem b_X12_unit_126 {E : rhE} {Γ : rhG} : ∀ (M : rhM) (v0 : Nat) (v2 : Int32) (v3 : Int32) (v4 : Int32), rhF E 7 6 yX12_unit cX12_unit (some .boolean) Γ (rhe1I Γ) (f_X12_unit_126 Γ M v0 v2 v3 v4) 126 [(0, rhR v0), (2, rhI v2), (3, rhI v3), (4, rhI v4)] [] Γ M := by
  intro M v0 v2 v3 v4
  rw [f_X12_unit_126]
  refine rhF.aload_n (pc := 126) dX12_unit_126 0 rfl ?_
  refine rhF.ck (fun h23 => ?_)
  refine rhF.callV (pc := 127) (ci := 12) (embc := rhe0I _ _) [] dX12_unit_127 ml_X12_294 mv_X12_isGood ⟨_, rfl, rfl⟩ h23 (c_X12_isGood _ _ _ _) (by decide) (by decide) rfl (Nat.le_of_ble_eq_true rfl) (fun r24 _ => ?_)
  refine rhF.if_ne (pc := 130) 135 dX12_unit_130 (by decide) (fun h25 => ?_) (fun h25 => ?_)
  · refine rhF.iconst (pc := 133) (v := 1) dX12_unit_133 (by decide) ?_
    exact rhF.zret (pc := 134) dX12_unit_134 rfl rfl rfl
  · refine rhF.aload_n (pc := 135) dX12_unit_135 0 rfl ?_
    refine rhF.get (pc := 136) (rhR _) dX12_unit_136 fl_X12_30 h23 rfl ?_
    refine rhF.aload_n (pc := 139) dX12_unit_139 0 rfl ?_
    refine rhF.get (pc := 140) (rhI _) dX12_unit_140 fl_X12_318 h23 rfl ?_
    refine rhF.dup2ri (pc := 143) dX12_unit_143 ?_
    refine rhF.ck (fun h26 => ?_)
    refine rhF.ck (fun h27 => ?_)
    refine rhF.iald (pc := 144) dX12_unit_144 h26 h27 ?_
    refine rhF.iload_n (pc := 145) dX12_unit_145 1 rfl ?_
    refine rhF.if_eq (pc := 146) 153 dX12_unit_146 (by decide) (fun h28 => ?_) (fun h28 => ?_)
    · refine rhF.iconst (pc := 153) (v := 1) dX12_unit_153 (by decide) ?_
      exact (b_X12_unit_154) _ _ _ _ _ _ _ _ _
    · refine rhF.iconst (pc := 149) (v := 0) dX12_unit_149 (by decide) ?_
      refine rhF.goto (pc := 150) 154 dX12_unit_150 (by decide) ?_
      exact (b_X12_unit_154) _ _ _ _ _ _ _ _ _
set_option maxHeartbeats 4000000 in
set_option maxRecDepth 100000 in
theorem b_X12_unit_56 {E : rhE} {Γ : rhG} : ∀ (M : rhM) (v0 : Nat) (s0 : Int32), rhF E 7 6 yX12_unit cX12_unit (some .boolean) Γ (rhe1I Γ) (f_X12_unit_56 Γ M v0 s0) 56 [(0, rhR v0)] [rhI s0] Γ M := by
  intro M v0 s0
  rw [f_X12_unit_56]
  refine rhF.istore_n (pc := 56) (L' := [(2, rhI _), (0, rhR _)]) dX12_unit_56 (by decide) rfl ?_
  refine rhF.aload_n (pc := 57) dX12_unit_57 1 rfl ?_
  refine rhF.bipush (pc := 58) (v := 40) dX12_unit_58 (by decide) ?_
  refine rhF.ck (fun h7 => ?_)
  refine rhF.callV (pc := 60) (ci := 12) (embc := rhe0I _ _) [rhI _] dX12_unit_60 ml_X12_315 mv_X12_stands ⟨_, rfl, rfl⟩ h7 (c_X12_stands _ _ _ _ _) (by decide) (by decide) rfl (Nat.le_of_ble_eq_true rfl) (fun r8 _ => ?_)
  refine rhF.istore_n (pc := 63) (L' := [(3, rhI _), (2, rhI _), (0, rhR _)]) dX12_unit_63 (by decide) rfl ?_
  refine rhF.aload_n (pc := 64) dX12_unit_64 2 rfl ?_
  refine rhF.callV (pc := 65) (ci := 12) (embc := rhe0I _ _) [] dX12_unit_65 ml_X12_400 mv_X12_wordHere ⟨_, rfl, rfl⟩ h7 (c_X12_wordHere _ _ _ _) (by decide) (by decide) rfl (Nat.le_of_ble_eq_true rfl) (fun r9 _ => ?_)
  refine rhF.istore (pc := 68) (L' := [(4, rhI _), (3, rhI _), (2, rhI _), (0, rhR _)]) dX12_unit_68 (by decide) rfl ?_
  refine rhF.iload_n (pc := 70) dX12_unit_70 2 rfl ?_
  refine rhF.if_ne (pc := 71) 105 dX12_unit_71 (by decide) (fun h10 => ?_) (fun h10 => ?_)
  · refine rhF.iload (pc := 74) dX12_unit_74 0 rfl ?_
    refine rhF.if_ne (pc := 76) 91 dX12_unit_76 (by decide) (fun h11 => ?_) (fun h11 => ?_)
    · refine rhF.aload_n (pc := 79) dX12_unit_79 3 rfl ?_
      refine rhF.get (pc := 80) (rhI _) dX12_unit_80 fl_X12_266 h7 rfl ?_
      refine rhF.iconst (pc := 83) (v := 4) dX12_unit_83 (by decide) ?_
      refine rhF.icmp_eq (pc := 84) 91 dX12_unit_84 (by decide) (fun h12 => ?_) (fun h12 => ?_)
      · refine rhF.sub [3, 2, 1, 0] rfl ?_
        exact (b_X12_unit_91 (b_X12_unit_105 (b_X12_unit_122 (b_X12_unit_126)) (b_X12_unit_126)) (b_X12_unit_122 (b_X12_unit_126))) _ _ _ _ _
      · refine rhF.iload_n (pc := 87) dX12_unit_87 1 rfl ?_
        refine rhF.if_eq (pc := 88) 122 dX12_unit_88 (by decide) (fun h50 => ?_) (fun h50 => ?_)
        · refine rhF.sub [3, 2, 1, 0] rfl ?_
          exact (b_X12_unit_122 (b_X12_unit_126)) _ _ _ _ _
        · refine rhF.sub [3, 2, 1, 0] rfl ?_
          exact (b_X12_unit_91 (b_X12_unit_105 (b_X12_unit_122 (b_X12_unit_126)) (b_X12_unit_126)) (b_X12_unit_122 (b_X12_unit_126))) _ _ _ _ _
    · refine rhF.sub [3, 2, 1, 0] rfl ?_
      exact (b_X12_unit_91 (b_X12_unit_105 (b_X12_unit_122 (b_X12_unit_126)) (b_X12_unit_126)) (b_X12_unit_122 (b_X12_unit_126))) _ _ _ _ _
  · refine rhF.sub [3, 2, 1, 0] rfl ?_
    exact (b_X12_unit_105 (b_X12_unit_122 (b_X12_unit_126)) (b_X12_unit_126)) _ _ _ _ _
set_option maxHeartbeats 4000000 in
set_option maxRecDepth 100000 in
theorem b_X12_unit_36 {E : rhE} {Γ : rhG} : ∀ (M : rhM) (v0 : Nat) (s0 : Int32), rhF E 7 6 yX12_unit cX12_unit (some .boolean) Γ (rhe1I Γ) (f_X12_unit_36 Γ M v0 s0) 36 [(0, rhR v0)] [rhI s0] Γ M := by
  intro M v0 s0
  rw [f_X12_unit_36]
  refine rhF.istore_n (pc := 36) (L' := [(1, rhI _), (0, rhR _)]) dX12_unit_36 (by decide) rfl ?_
  refine rhF.iload_n (pc := 37) dX12_unit_37 0 rfl ?_
  refine rhF.if_eq (pc := 38) 55 dX12_unit_38 (by decide) (fun h6 => ?_) (fun h6 => ?_)
  · refine rhF.sub [1] rfl ?_
    exact (b_X12_unit_55 (b_X12_unit_56)) _ _
  · refine rhF.aload_n (pc := 41) dX12_unit_41 1 rfl ?_
    refine rhF.ldc2 (pc := 42) dX12_unit_42 k_X12_254 ?_
    refine rhF.ck (fun h51 => ?_)
    refine rhF.callV (pc := 45) (ci := 12) (embc := rhe0I _ _) [rhJ _] dX12_unit_45 ml_X12_304 mv_X12_isWord ⟨_, rfl, rfl⟩ h51 (c_X12_isWord _ _ _ _ _) (by decide) (by decide) rfl (Nat.le_of_ble_eq_true rfl) (fun r52 _ => ?_)
    refine rhF.if_eq (pc := 48) 55 dX12_unit_48 (by decide) (fun h53 => ?_) (fun h53 => ?_)
    · refine rhF.sub [1] rfl ?_
      exact (b_X12_unit_55 (b_X12_unit_56)) _ _
    · refine rhF.iconst (pc := 51) (v := 1) dX12_unit_51 (by decide) ?_
      refine rhF.goto (pc := 52) 56 dX12_unit_52 (by decide) ?_
      refine rhF.sub [1] rfl ?_
      exact (b_X12_unit_56) _ _ _
set_option maxHeartbeats 4000000 in
set_option maxRecDepth 100000 in
theorem b_X12_unit_31 {E : rhE} {Γ : rhG} {k36 : rhM → Nat → Int32 → Option (Int32 × rhM)} (hk36 : ∀ (M : rhM) (v0 : Nat) (s0 : Int32), rhF E 7 6 yX12_unit cX12_unit (some .boolean) Γ (rhe1I Γ) (k36 M v0 s0) 36 [(0, rhR v0)] [rhI s0] Γ M) : ∀ (M : rhM) (v0 : Nat), rhF E 7 6 yX12_unit cX12_unit (some .boolean) Γ (rhe1I Γ) (f_X12_unit_31 k36 Γ M v0) 31 [(0, rhR v0)] [] Γ M := by
  intro M v0
  rw [f_X12_unit_31]
  refine rhF.iconst (pc := 31) (v := 1) dX12_unit_31 (by decide) ?_
  refine rhF.goto (pc := 32) 36 dX12_unit_32 (by decide) ?_
  exact hk36 _ _ _
set_option maxHeartbeats 4000000 in
set_option maxRecDepth 100000 in
theorem b_X12_unit {E : rhE} {Γ : rhG} : ∀ (M : rhM) (v0 : Nat), rhF E 7 6 yX12_unit cX12_unit (some .boolean) Γ (rhe1I Γ) (f_X12_unit Γ M v0) 0 [(0, rhR v0)] [] Γ M := by
  intro M v0
  rw [f_X12_unit]
  refine rhF.aload_n (pc := 0) dX12_unit_0 0 rfl ?_
  refine rhF.ck (fun h1 => ?_)
  refine rhF.get (pc := 1) (rhR _) dX12_unit_1 fl_X12_83 h1 rfl ?_
  refine rhF.aload_n (pc := 4) dX12_unit_4 0 rfl ?_
  refine rhF.get (pc := 5) (rhI _) dX12_unit_5 fl_X12_385 h1 rfl ?_
  refine rhF.iconst (pc := 8) (v := 1) dX12_unit_8 (by decide) ?_
  refine rhF.isub (pc := 9) dX12_unit_9 ?_
  refine rhF.ck (fun h2 => ?_)
  refine rhF.ck (fun h3 => ?_)
  refine rhF.iald (pc := 10) dX12_unit_10 h2 h3 ?_
  refine rhF.iconst (pc := 11) (v := 3) dX12_unit_11 (by decide) ?_
  refine rhF.icmp_le (pc := 12) 31 dX12_unit_12 (by decide) (fun h4 => ?_) (fun h4 => ?_)
  · refine rhF.aload_n (pc := 15) dX12_unit_15 0 rfl ?_
    refine rhF.get (pc := 16) (rhR _) dX12_unit_16 fl_X12_83 h1 rfl ?_
    refine rhF.aload_n (pc := 19) dX12_unit_19 0 rfl ?_
    refine rhF.get (pc := 20) (rhI _) dX12_unit_20 fl_X12_385 h1 rfl ?_
    refine rhF.iconst (pc := 23) (v := 1) dX12_unit_23 (by decide) ?_
    refine rhF.isub (pc := 24) dX12_unit_24 ?_
    refine rhF.iald (pc := 25) dX12_unit_25 h2 h3 ?_
    refine rhF.bipush (pc := 26) (v := 7) dX12_unit_26 (by decide) ?_
    refine rhF.icmp_lt (pc := 28) 35 dX12_unit_28 (by decide) (fun h5 => ?_) (fun h5 => ?_)
    · refine rhF.iconst (pc := 35) (v := 0) dX12_unit_35 (by decide) ?_
      exact (b_X12_unit_36) _ _ _
    · exact (b_X12_unit_31 (b_X12_unit_36)) _ _
  · exact (b_X12_unit_31 (b_X12_unit_36)) _ _
theorem c_X12_unit (E : rhE) (Γ : rhG) (M : rhM) (v0 : Nat) : ∀ a, f_X12_unit Γ M v0 = some a → rhC E 7 yX12_unit cX12_unit 6 (some .boolean) [rhR v0] Γ M ((rhe1I Γ) a) := rhF.met (by decide +kernel) (Nat.le_of_ble_eq_true rfl) (b_X12_unit M v0)
def f_X12_e_48 (k19 : rhM → Nat → Int32 → Option (rhM)) (Γ : rhG) (M : rhM) (v0 : Nat) (s0 : Int32) : Option (rhM) :=
  k19 M v0 s0
def f_X12_e_19 (Γ : rhG) : Nat → rhM → Nat → Int32 → Option (rhM)
  | 0, _, _, _ => none
  | n + 1, M, v0, v1 =>
    rhck (Γ.2.2.1 v0 = 13) <|
    (f_X12_isGood Γ M v0).bind fun r6 =>
    if r6 = 0 then
      (some M)
    else
      if 0 < (M.1 v0 38) then
        (if v1 = 0 then
          ((f_X12_behindUnit Γ M v0).bind fun r10 =>
          f_X12_e_48 (f_X12_e_19 Γ n) Γ r10.2 v0 r10.1)
        else
          (f_X12_unit Γ M v0).bind fun r11 =>
          f_X12_e_48 (f_X12_e_19 Γ n) Γ r11.2 v0 r11.1)
      else
        some M
def f_X12_e (Γ : rhG) (M : rhM) (v0 : Nat) : Option (rhM) :=
  rhck (Γ.2.2.1 v0 = 13) <|
  let M2 := rhsi M v0 38 0
  let M3 := rhsi M2 v0 37 0
  (f_X12_pushE Γ M3 v0 (8 : Int32) (0 : Int32)).bind fun r4 =>
  f_X12_e_19 Γ rhFU r4 v0 1
set_option maxHeartbeats 4000000 in
set_option maxRecDepth 100000 in
theorem b_X12_e_48 {E : rhE} {Γ : rhG} {k19 : rhM → Nat → Int32 → Option (rhM)} (hk19 : ∀ (M : rhM) (v0 : Nat) (v1 : Int32), rhF E 8 2 yX12_e cX12_e none Γ (rhe1U Γ) (k19 M v0 v1) 19 [(0, rhR v0), (1, rhI v1)] [] Γ M) : ∀ (M : rhM) (v0 : Nat) (s0 : Int32), rhF E 8 2 yX12_e cX12_e none Γ (rhe1U Γ) (f_X12_e_48 k19 Γ M v0 s0) 48 [(0, rhR v0)] [rhI s0] Γ M := by
  intro M v0 s0
  rw [f_X12_e_48]
  refine rhF.istore_n (pc := 48) (L' := [(1, rhI _), (0, rhR _)]) dX12_e_48 (by decide) rfl ?_
  refine rhF.goto (pc := 49) 19 dX12_e_49 (by decide) ?_
  refine rhF.sub [1, 0] rfl ?_
  exact hk19 _ _ _
set_option maxHeartbeats 4000000 in
set_option maxRecDepth 100000 in
theorem b_X12_e_19 {E : rhE} {Γ : rhG} : ∀ (n : Nat) (M : rhM) (v0 : Nat) (v1 : Int32), rhF E 8 2 yX12_e cX12_e none Γ (rhe1U Γ) (f_X12_e_19 Γ n M v0 v1) 19 [(0, rhR v0), (1, rhI v1)] [] Γ M := by
  intro n
  induction n with
  | zero => intro M v0 v1; rw [f_X12_e_19]; exact rhF.nope
  | succ n ih =>
    intro M v0 v1
    rw [f_X12_e_19]
    refine rhF.aload_n (pc := 19) dX12_e_19 0 rfl ?_
    refine rhF.ck (fun h5 => ?_)
    refine rhF.callV (pc := 20) (ci := 12) (embc := rhe0I _ _) [] dX12_e_20 ml_X12_294 mv_X12_isGood ⟨_, rfl, rfl⟩ h5 (c_X12_isGood _ _ _ _) (by decide) (by decide) rfl (Nat.le_of_ble_eq_true rfl) (fun r6 _ => ?_)
    refine rhF.if_eq (pc := 23) 52 dX12_e_23 (by decide) (fun h7 => ?_) (fun h7 => ?_)
    · exact rhF.vret (pc := 52) dX12_e_52 rfl rfl
    · refine rhF.aload_n (pc := 26) dX12_e_26 0 rfl ?_
      refine rhF.get (pc := 27) (rhI _) dX12_e_27 fl_X12_385 h5 rfl ?_
      refine rhF.if_le (pc := 30) 52 dX12_e_30 (by decide) (fun h8 => ?_) (fun h8 => ?_)
      · refine rhF.iload_n (pc := 33) dX12_e_33 1 rfl ?_
        refine rhF.if_eq (pc := 34) 44 dX12_e_34 (by decide) (fun h9 => ?_) (fun h9 => ?_)
        · refine rhF.aload_n (pc := 44) dX12_e_44 0 rfl ?_
          refine rhF.callV (pc := 45) (ci := 12) (embc := rhe1I _) [] dX12_e_45 ml_X12_397 mv_X12_behindUnit ⟨_, rfl, rfl⟩ h5 (c_X12_behindUnit _ _ _ _) (by decide) (by decide) rfl (Nat.le_of_ble_eq_true rfl) (fun r10 _ => ?_)
          refine rhF.sub [0] rfl ?_
          exact (b_X12_e_48 ih) _ _ _
        · refine rhF.aload_n (pc := 37) dX12_e_37 0 rfl ?_
          refine rhF.callV (pc := 38) (ci := 12) (embc := rhe1I _) [] dX12_e_38 ml_X12_394 mv_X12_unit ⟨_, rfl, rfl⟩ h5 (c_X12_unit _ _ _ _) (by decide) (by decide) rfl (Nat.le_of_ble_eq_true rfl) (fun r11 _ => ?_)
          refine rhF.goto (pc := 41) 48 dX12_e_41 (by decide) ?_
          refine rhF.sub [0] rfl ?_
          exact (b_X12_e_48 ih) _ _ _
      · exact rhF.vret (pc := 52) dX12_e_52 rfl rfl
set_option maxHeartbeats 4000000 in
set_option maxRecDepth 100000 in
theorem b_X12_e {E : rhE} {Γ : rhG} : ∀ (M : rhM) (v0 : Nat), rhF E 8 2 yX12_e cX12_e none Γ (rhe1U Γ) (f_X12_e Γ M v0) 0 [(0, rhR v0)] [] Γ M := by
  intro M v0
  rw [f_X12_e]
  refine rhF.aload_n (pc := 0) dX12_e_0 0 rfl ?_
  refine rhF.iconst (pc := 1) (v := 0) dX12_e_1 (by decide) ?_
  refine rhF.ck (fun h1 => ?_)
  refine rhF.puti (pc := 2) dX12_e_2 fl_X12_385 h1 (fun q hq => by cases hq; exact Or.inl rfl) ⟨rfl, rfl⟩ (fun _ => rfl) ?_
  refine rhF.aload_n (pc := 5) dX12_e_5 0 rfl ?_
  refine rhF.iconst (pc := 6) (v := 0) dX12_e_6 (by decide) ?_
  refine rhF.puti (pc := 7) dX12_e_7 fl_X12_388 h1 (fun q hq => by cases hq; exact Or.inl rfl) ⟨rfl, rfl⟩ (fun _ => rfl) ?_
  refine rhF.aload_n (pc := 10) dX12_e_10 0 rfl ?_
  refine rhF.bipush (pc := 11) (v := 8) dX12_e_11 (by decide) ?_
  refine rhF.iconst (pc := 13) (v := 0) dX12_e_13 (by decide) ?_
  refine rhF.callV (pc := 14) (ci := 12) (embc := rhe1U _) [rhI _, rhI _] dX12_e_14 ml_X12_391 mv_X12_pushE ⟨_, rfl, rfl⟩ h1 (c_X12_pushE _ _ _ _ _ _) (by decide) (by decide) rfl (Nat.le_of_ble_eq_true rfl) (fun r4 _ => ?_)
  refine rhF.iconst (pc := 17) (v := 1) dX12_e_17 (by decide) ?_
  refine rhF.istore_n (pc := 18) (L' := [(1, rhI _), (0, rhR _)]) dX12_e_18 (by decide) rfl ?_
  refine rhF.sub [1, 0] rfl ?_
  exact (b_X12_e_19 rhFU) _ _ _
theorem c_X12_e (E : rhE) (Γ : rhG) (M : rhM) (v0 : Nat) : ∀ a, f_X12_e Γ M v0 = some a → rhC E 8 yX12_e cX12_e 2 none [rhR v0] Γ M ((rhe1U Γ) a) := rhF.met (by decide +kernel) (Nat.le_of_ble_eq_true rfl) (b_X12_e M v0)
def f_X12_isFull (Γ : rhG) (M : rhM) (v0 : Nat) : Option (Int32) :=
  rhck (Γ.2.2.1 v0 = 13) <|
  (f_X12_isWord Γ M v0 ((1918986604 : Int64))).bind fun r2 =>
  if r2 = 0 then
    ((f_X12_isWord Γ M v0 ((448546567013 : Int64))).bind fun r4 =>
    if r4 = 0 then
      ((f_X12_isWord Γ M v0 ((108187867505765 : Int64))).bind fun r6 =>
      if r6 = 0 then
        ((f_X12_isWord Γ M v0 ((1852138347 : Int64))).bind fun r8 =>
        if r8 = 0 then
          ((f_X12_isWord Γ M v0 ((431415719795 : Int64))).bind fun r10 =>
          if r10 = 0 then
            ((f_X12_isWord Γ M v0 ((7102839 : Int64))).bind fun r12 =>
            if r12 = 0 then
              (some 1)
            else
              rhck (Γ.2.2.1 (M.2.2 v0 25) = 17) <|
              rhck (0 ≤ (M.1 v0 35).toInt ∧ (M.1 v0 35).toInt < (Γ.2.2.2 (M.2.2 v0 25) : Nat)) <|
              if (M.1 (M.2.2 v0 25) (M.1 v0 35).toNatClampNeg) = 0 then
                (some 0)
              else
                some 1)
          else
            rhck (Γ.2.2.1 (M.2.2 v0 24) = 17) <|
            rhck (0 ≤ (M.1 v0 35).toInt ∧ (M.1 v0 35).toInt < (Γ.2.2.2 (M.2.2 v0 24) : Nat)) <|
            rhck (M.1 (M.2.2 v0 24) (M.1 v0 35).toNatClampNeg = 0 ∨ M.1 (M.2.2 v0 24) (M.1 v0 35).toNatClampNeg = 1) <|
            some (M.1 (M.2.2 v0 24) (M.1 v0 35).toNatClampNeg))
        else
          rhck (Γ.2.2.1 (M.2.2 v0 23) = 17) <|
          rhck (0 ≤ (M.1 v0 35).toInt ∧ (M.1 v0 35).toInt < (Γ.2.2.2 (M.2.2 v0 23) : Nat)) <|
          rhck (M.1 (M.2.2 v0 23) (M.1 v0 35).toNatClampNeg = 0 ∨ M.1 (M.2.2 v0 23) (M.1 v0 35).toNatClampNeg = 1) <|
          some (M.1 (M.2.2 v0 23) (M.1 v0 35).toNatClampNeg))
      else
        rhck (Γ.2.2.1 (M.2.2 v0 13) = 15) <|
        rhck (0 ≤ (M.1 v0 35).toInt ∧ (M.1 v0 35).toInt < (Γ.2.2.2 (M.2.2 v0 13) : Nat)) <|
        if (M.1 (M.2.2 v0 13) (M.1 v0 35).toNatClampNeg) = 20 then
          (some 1)
        else
          some 0)
    else
      rhck (Γ.2.2.1 (M.2.2 v0 12) = 15) <|
      rhck (0 ≤ (M.1 v0 35).toInt ∧ (M.1 v0 35).toInt < (Γ.2.2.2 (M.2.2 v0 12) : Nat)) <|
      if (M.1 (M.2.2 v0 12) (M.1 v0 35).toNatClampNeg) = 8 then
        (some 1)
      else
        some 0)
  else
    rhck (Γ.2.2.1 (M.2.2 v0 11) = 15) <|
    rhck (0 ≤ (M.1 v0 35).toInt ∧ (M.1 v0 35).toInt < (Γ.2.2.2 (M.2.2 v0 11) : Nat)) <|
    if (M.1 (M.2.2 v0 11) (M.1 v0 35).toNatClampNeg) = 5 then
      (some 1)
    else
      some 0
set_option maxHeartbeats 4000000 in
set_option maxRecDepth 100000 in
theorem b_X12_isFull {E : rhE} {Γ : rhG} {M : rhM} : ∀ (v0 : Nat), rhF E 5 1 yX12_isFull cX12_isFull (some .boolean) Γ (rhe0I Γ M) (f_X12_isFull Γ M v0) 0 [(0, rhR v0)] [] Γ M := by
  intro v0
  rw [f_X12_isFull]
  refine rhF.aload_n (pc := 0) dX12_isFull_0 0 rfl ?_
  refine rhF.ldc2 (pc := 1) dX12_isFull_1 k_X12_220 ?_
  refine rhF.ck (fun h1 => ?_)
  refine rhF.callV (pc := 4) (ci := 12) (embc := rhe0I _ _) [rhJ _] dX12_isFull_4 ml_X12_304 mv_X12_isWord ⟨_, rfl, rfl⟩ h1 (c_X12_isWord _ _ _ _ _) (by decide) (by decide) rfl (Nat.le_of_ble_eq_true rfl) (fun r2 _ => ?_)
  refine rhF.if_eq (pc := 7) 29 dX12_isFull_7 (by decide) (fun h3 => ?_) (fun h3 => ?_)
  · refine rhF.aload_n (pc := 29) dX12_isFull_29 0 rfl ?_
    refine rhF.ldc2 (pc := 30) dX12_isFull_30 k_X12_224 ?_
    refine rhF.callV (pc := 33) (ci := 12) (embc := rhe0I _ _) [rhJ _] dX12_isFull_33 ml_X12_304 mv_X12_isWord ⟨_, rfl, rfl⟩ h1 (c_X12_isWord _ _ _ _ _) (by decide) (by decide) rfl (Nat.le_of_ble_eq_true rfl) (fun r4 _ => ?_)
    refine rhF.if_eq (pc := 36) 59 dX12_isFull_36 (by decide) (fun h5 => ?_) (fun h5 => ?_)
    · refine rhF.aload_n (pc := 59) dX12_isFull_59 0 rfl ?_
      refine rhF.ldc2 (pc := 60) dX12_isFull_60 k_X12_230 ?_
      refine rhF.callV (pc := 63) (ci := 12) (embc := rhe0I _ _) [rhJ _] dX12_isFull_63 ml_X12_304 mv_X12_isWord ⟨_, rfl, rfl⟩ h1 (c_X12_isWord _ _ _ _ _) (by decide) (by decide) rfl (Nat.le_of_ble_eq_true rfl) (fun r6 _ => ?_)
      refine rhF.if_eq (pc := 66) 89 dX12_isFull_66 (by decide) (fun h7 => ?_) (fun h7 => ?_)
      · refine rhF.aload_n (pc := 89) dX12_isFull_89 0 rfl ?_
        refine rhF.ldc2 (pc := 90) dX12_isFull_90 k_X12_234 ?_
        refine rhF.callV (pc := 93) (ci := 12) (embc := rhe0I _ _) [rhJ _] dX12_isFull_93 ml_X12_304 mv_X12_isWord ⟨_, rfl, rfl⟩ h1 (c_X12_isWord _ _ _ _ _) (by decide) (by decide) rfl (Nat.le_of_ble_eq_true rfl) (fun r8 _ => ?_)
        refine rhF.if_eq (pc := 96) 109 dX12_isFull_96 (by decide) (fun h9 => ?_) (fun h9 => ?_)
        · refine rhF.aload_n (pc := 109) dX12_isFull_109 0 rfl ?_
          refine rhF.ldc2 (pc := 110) dX12_isFull_110 k_X12_236 ?_
          refine rhF.callV (pc := 113) (ci := 12) (embc := rhe0I _ _) [rhJ _] dX12_isFull_113 ml_X12_304 mv_X12_isWord ⟨_, rfl, rfl⟩ h1 (c_X12_isWord _ _ _ _ _) (by decide) (by decide) rfl (Nat.le_of_ble_eq_true rfl) (fun r10 _ => ?_)
          refine rhF.if_eq (pc := 116) 129 dX12_isFull_116 (by decide) (fun h11 => ?_) (fun h11 => ?_)
          · refine rhF.aload_n (pc := 129) dX12_isFull_129 0 rfl ?_
            refine rhF.ldc2 (pc := 130) dX12_isFull_130 k_X12_238 ?_
            refine rhF.callV (pc := 133) (ci := 12) (embc := rhe0I _ _) [rhJ _] dX12_isFull_133 ml_X12_304 mv_X12_isWord ⟨_, rfl, rfl⟩ h1 (c_X12_isWord _ _ _ _ _) (by decide) (by decide) rfl (Nat.le_of_ble_eq_true rfl) (fun r12 _ => ?_)
            refine rhF.if_eq (pc := 136) 151 dX12_isFull_136 (by decide) (fun h13 => ?_) (fun h13 => ?_)
            · refine rhF.iconst (pc := 151) (v := 1) dX12_isFull_151 (by decide) ?_
              refine rhF.goto (pc := 152) 156 dX12_isFull_152 (by decide) ?_
              exact rhF.zret (pc := 156) dX12_isFull_156 rfl rfl rfl
            · refine rhF.aload_n (pc := 139) dX12_isFull_139 0 rfl ?_
              refine rhF.get (pc := 140) (rhR _) dX12_isFull_140 fl_X12_64 h1 rfl ?_
              refine rhF.aload_n (pc := 143) dX12_isFull_143 0 rfl ?_
              refine rhF.get (pc := 144) (rhI _) dX12_isFull_144 fl_X12_318 h1 rfl ?_
              refine rhF.ck (fun h14 => ?_)
              refine rhF.ck (fun h15 => ?_)
              refine rhF.zald (pc := 147) dX12_isFull_147 h14 h15 ?_
              refine rhF.if_eq (pc := 148) 155 dX12_isFull_148 (by decide) (fun h16 => ?_) (fun h16 => ?_)
              · refine rhF.iconst (pc := 155) (v := 0) dX12_isFull_155 (by decide) ?_
                exact rhF.zret (pc := 156) dX12_isFull_156 rfl rfl rfl
              · refine rhF.iconst (pc := 151) (v := 1) dX12_isFull_151 (by decide) ?_
                refine rhF.goto (pc := 152) 156 dX12_isFull_152 (by decide) ?_
                exact rhF.zret (pc := 156) dX12_isFull_156 rfl rfl rfl
          · refine rhF.aload_n (pc := 119) dX12_isFull_119 0 rfl ?_
            refine rhF.get (pc := 120) (rhR _) dX12_isFull_120 fl_X12_61 h1 rfl ?_
            refine rhF.aload_n (pc := 123) dX12_isFull_123 0 rfl ?_
            refine rhF.get (pc := 124) (rhI _) dX12_isFull_124 fl_X12_318 h1 rfl ?_
            refine rhF.ck (fun h17 => ?_)
            refine rhF.ck (fun h18 => ?_)
            refine rhF.zald (pc := 127) dX12_isFull_127 h17 h18 ?_
            refine rhF.ck (fun h19 => ?_)
            exact rhF.zret (pc := 128) dX12_isFull_128 rfl (rhzb h19) rfl
        · refine rhF.aload_n (pc := 99) dX12_isFull_99 0 rfl ?_
          refine rhF.get (pc := 100) (rhR _) dX12_isFull_100 fl_X12_57 h1 rfl ?_
          refine rhF.aload_n (pc := 103) dX12_isFull_103 0 rfl ?_
          refine rhF.get (pc := 104) (rhI _) dX12_isFull_104 fl_X12_318 h1 rfl ?_
          refine rhF.ck (fun h20 => ?_)
          refine rhF.ck (fun h21 => ?_)
          refine rhF.zald (pc := 107) dX12_isFull_107 h20 h21 ?_
          refine rhF.ck (fun h22 => ?_)
          exact rhF.zret (pc := 108) dX12_isFull_108 rfl (rhzb h22) rfl
      · refine rhF.aload_n (pc := 69) dX12_isFull_69 0 rfl ?_
        refine rhF.get (pc := 70) (rhR _) dX12_isFull_70 fl_X12_27 h1 rfl ?_
        refine rhF.aload_n (pc := 73) dX12_isFull_73 0 rfl ?_
        refine rhF.get (pc := 74) (rhI _) dX12_isFull_74 fl_X12_318 h1 rfl ?_
        refine rhF.ck (fun h23 => ?_)
        refine rhF.ck (fun h24 => ?_)
        refine rhF.iald (pc := 77) dX12_isFull_77 h23 h24 ?_
        refine rhF.bipush (pc := 78) (v := 20) dX12_isFull_78 (by decide) ?_
        refine rhF.icmp_ne (pc := 80) 87 dX12_isFull_80 (by decide) (fun h25 => ?_) (fun h25 => ?_)
        · refine rhF.iconst (pc := 83) (v := 1) dX12_isFull_83 (by decide) ?_
          refine rhF.goto (pc := 84) 88 dX12_isFull_84 (by decide) ?_
          exact rhF.zret (pc := 88) dX12_isFull_88 rfl rfl rfl
        · refine rhF.iconst (pc := 87) (v := 0) dX12_isFull_87 (by decide) ?_
          exact rhF.zret (pc := 88) dX12_isFull_88 rfl rfl rfl
    · refine rhF.aload_n (pc := 39) dX12_isFull_39 0 rfl ?_
      refine rhF.get (pc := 40) (rhR _) dX12_isFull_40 fl_X12_24 h1 rfl ?_
      refine rhF.aload_n (pc := 43) dX12_isFull_43 0 rfl ?_
      refine rhF.get (pc := 44) (rhI _) dX12_isFull_44 fl_X12_318 h1 rfl ?_
      refine rhF.ck (fun h26 => ?_)
      refine rhF.ck (fun h27 => ?_)
      refine rhF.iald (pc := 47) dX12_isFull_47 h26 h27 ?_
      refine rhF.bipush (pc := 48) (v := 8) dX12_isFull_48 (by decide) ?_
      refine rhF.icmp_ne (pc := 50) 57 dX12_isFull_50 (by decide) (fun h28 => ?_) (fun h28 => ?_)
      · refine rhF.iconst (pc := 53) (v := 1) dX12_isFull_53 (by decide) ?_
        refine rhF.goto (pc := 54) 58 dX12_isFull_54 (by decide) ?_
        exact rhF.zret (pc := 58) dX12_isFull_58 rfl rfl rfl
      · refine rhF.iconst (pc := 57) (v := 0) dX12_isFull_57 (by decide) ?_
        exact rhF.zret (pc := 58) dX12_isFull_58 rfl rfl rfl
  · refine rhF.aload_n (pc := 10) dX12_isFull_10 0 rfl ?_
    refine rhF.get (pc := 11) (rhR _) dX12_isFull_11 fl_X12_20 h1 rfl ?_
    refine rhF.aload_n (pc := 14) dX12_isFull_14 0 rfl ?_
    refine rhF.get (pc := 15) (rhI _) dX12_isFull_15 fl_X12_318 h1 rfl ?_
    refine rhF.ck (fun h29 => ?_)
    refine rhF.ck (fun h30 => ?_)
    refine rhF.iald (pc := 18) dX12_isFull_18 h29 h30 ?_
    refine rhF.iconst (pc := 19) (v := 5) dX12_isFull_19 (by decide) ?_
    refine rhF.icmp_ne (pc := 20) 27 dX12_isFull_20 (by decide) (fun h31 => ?_) (fun h31 => ?_)
    · refine rhF.iconst (pc := 23) (v := 1) dX12_isFull_23 (by decide) ?_
      refine rhF.goto (pc := 24) 28 dX12_isFull_24 (by decide) ?_
      exact rhF.zret (pc := 28) dX12_isFull_28 rfl rfl rfl
    · refine rhF.iconst (pc := 27) (v := 0) dX12_isFull_27 (by decide) ?_
      exact rhF.zret (pc := 28) dX12_isFull_28 rfl rfl rfl
theorem c_X12_isFull (E : rhE) (Γ : rhG) (M : rhM) (v0 : Nat) : ∀ a, f_X12_isFull Γ M v0 = some a → rhC E 5 yX12_isFull cX12_isFull 1 (some .boolean) [rhR v0] Γ M ((rhe0I Γ M) a) := rhF.met (by decide +kernel) (Nat.le_of_ble_eq_true rfl) (b_X12_isFull v0)
def f_X12_numeral_69 (Γ : rhG) (M : rhM) (v0 : Nat) (v1 : Int32) (v3 : Int32) : Option (Int32 × rhM) :=
  rhck (Γ.2.2.1 v0 = 13) <|
  (f_X12_isGood Γ M v0).bind fun r13 =>
  if r13 = 0 then
    (some ((v1, M)))
  else
    some ((v3, M))
def f_X12_numeral_53 (Γ : rhG) (M : rhM) (v0 : Nat) (v1 : Int32) : Option (Int32 × rhM) :=
  rhck (Γ.2.2.1 v0 = 13) <|
  let x9 := M.1 v0 9
  (f_X12_isGood Γ M v0).bind fun r10 =>
  if r10 = 0 then
    (f_X12_numeral_69 Γ M v0 v1 x9)
  else
    (f_X12_goOn Γ M v0).bind fun r15 =>
    f_X12_numeral_69 Γ r15 v0 v1 x9
def f_X12_numeral_44 (k53 : rhM → Nat → Int32 → Option (Int32 × rhM)) (Γ : rhG) (M : rhM) (v0 : Nat) (v1 : Int32) : Option (Int32 × rhM) :=
  rhck (Γ.2.2.1 v0 = 13) <|
  (f_X12_fails Γ M v0 (4 : Int32) (M.1 v0 6)).bind fun r18 =>
  k53 r18 v0 v1
def f_X12_numeral_21 (Γ : rhG) (M : rhM) (v0 : Nat) (v1 : Int32) (v2 : Int32) : Option (Int32 × rhM) :=
  rhck (Γ.2.2.1 v0 = 13) <|
  (f_X12_isGood Γ M v0).bind fun r6 =>
  if r6 = 0 then
    (f_X12_numeral_53 Γ M v0 v1)
  else
    if (M.1 v0 9) < v1 then
      (f_X12_numeral_44 (f_X12_numeral_53 Γ) Γ M v0 v1)
    else
      if v2 < (M.1 v0 9) then
        (f_X12_numeral_44 (f_X12_numeral_53 Γ) Γ M v0 v1)
      else
        f_X12_numeral_53 Γ M v0 v1
def f_X12_numeral (Γ : rhG) (M : rhM) (v0 : Nat) (v1 : Int32) (v2 : Int32) : Option (Int32 × rhM) :=
  rhck (Γ.2.2.1 v0 = 13) <|
  (f_X12_isGood Γ M v0).bind fun r2 =>
  if r2 = 0 then
    (some ((v1, M)))
  else
    if (M.1 v0 8) = 4 then
      (f_X12_numeral_21 Γ M v0 v1 v2)
    else
      (f_X12_misplaced Γ M v0).bind fun r20 =>
      f_X12_numeral_21 Γ r20 v0 v1 v2
set_option maxHeartbeats 4000000 in
set_option maxRecDepth 100000 in
theorem b_X12_numeral_69 {E : rhE} {Γ : rhG} : ∀ (M : rhM) (v0 : Nat) (v1 : Int32) (v3 : Int32), rhF E 6 4 yX12_numeral cX12_numeral (some .int) Γ (rhe1I Γ) (f_X12_numeral_69 Γ M v0 v1 v3) 69 [(0, rhR v0), (1, rhI v1), (3, rhI v3)] [] Γ M := by
  intro M v0 v1 v3
  rw [f_X12_numeral_69]
  refine rhF.aload_n (pc := 69) dX12_numeral_69 0 rfl ?_
  refine rhF.ck (fun h12 => ?_)
  refine rhF.callV (pc := 70) (ci := 12) (embc := rhe0I _ _) [] dX12_numeral_70 ml_X12_294 mv_X12_isGood ⟨_, rfl, rfl⟩ h12 (c_X12_isGood _ _ _ _) (by decide) (by decide) rfl (Nat.le_of_ble_eq_true rfl) (fun r13 _ => ?_)
  refine rhF.if_eq (pc := 73) 80 dX12_numeral_73 (by decide) (fun h14 => ?_) (fun h14 => ?_)
  · refine rhF.iload_n (pc := 80) dX12_numeral_80 1 rfl ?_
    exact rhF.zret (pc := 81) dX12_numeral_81 rfl rfl rfl
  · refine rhF.iload_n (pc := 76) dX12_numeral_76 2 rfl ?_
    refine rhF.goto (pc := 77) 81 dX12_numeral_77 (by decide) ?_
    exact rhF.zret (pc := 81) dX12_numeral_81 rfl rfl rfl
set_option maxHeartbeats 4000000 in
set_option maxRecDepth 100000 in
theorem b_X12_numeral_53 {E : rhE} {Γ : rhG} : ∀ (M : rhM) (v0 : Nat) (v1 : Int32), rhF E 6 4 yX12_numeral cX12_numeral (some .int) Γ (rhe1I Γ) (f_X12_numeral_53 Γ M v0 v1) 53 [(0, rhR v0), (1, rhI v1)] [] Γ M := by
  intro M v0 v1
  rw [f_X12_numeral_53]
  refine rhF.aload_n (pc := 53) dX12_numeral_53 0 rfl ?_
  refine rhF.ck (fun h8 => ?_)
  refine rhF.get (pc := 54) (rhI _) dX12_numeral_54 fl_X12_284 h8 rfl ?_
  refine rhF.istore_n (pc := 57) (L' := [(3, rhI _), (0, rhR _), (1, rhI _)]) dX12_numeral_57 (by decide) rfl ?_
  refine rhF.aload_n (pc := 58) dX12_numeral_58 1 rfl ?_
  refine rhF.callV (pc := 59) (ci := 12) (embc := rhe0I _ _) [] dX12_numeral_59 ml_X12_294 mv_X12_isGood ⟨_, rfl, rfl⟩ h8 (c_X12_isGood _ _ _ _) (by decide) (by decide) rfl (Nat.le_of_ble_eq_true rfl) (fun r10 _ => ?_)
  refine rhF.if_eq (pc := 62) 69 dX12_numeral_62 (by decide) (fun h11 => ?_) (fun h11 => ?_)
  · refine rhF.sub [1, 2, 0] rfl ?_
    exact (b_X12_numeral_69) _ _ _ _
  · refine rhF.aload_n (pc := 65) dX12_numeral_65 1 rfl ?_
    refine rhF.callV (pc := 66) (ci := 12) (embc := rhe1U _) [] dX12_numeral_66 ml_X12_298 mv_X12_goOn ⟨_, rfl, rfl⟩ h8 (c_X12_goOn _ _ _ _) (by decide) (by decide) rfl (Nat.le_of_ble_eq_true rfl) (fun r15 _ => ?_)
    refine rhF.sub [1, 2, 0] rfl ?_
    exact (b_X12_numeral_69) _ _ _ _
set_option maxHeartbeats 4000000 in
set_option maxRecDepth 100000 in
theorem b_X12_numeral_44 {E : rhE} {Γ : rhG} {k53 : rhM → Nat → Int32 → Option (Int32 × rhM)} (hk53 : ∀ (M : rhM) (v0 : Nat) (v1 : Int32), rhF E 6 4 yX12_numeral cX12_numeral (some .int) Γ (rhe1I Γ) (k53 M v0 v1) 53 [(0, rhR v0), (1, rhI v1)] [] Γ M) : ∀ (M : rhM) (v0 : Nat) (v1 : Int32), rhF E 6 4 yX12_numeral cX12_numeral (some .int) Γ (rhe1I Γ) (f_X12_numeral_44 k53 Γ M v0 v1) 44 [(0, rhR v0), (1, rhI v1)] [] Γ M := by
  intro M v0 v1
  rw [f_X12_numeral_44]
  refine rhF.aload_n (pc := 44) dX12_numeral_44 0 rfl ?_
  refine rhF.iconst (pc := 45) (v := 4) dX12_numeral_45 (by decide) ?_
  refine rhF.aload_n (pc := 46) dX12_numeral_46 0 rfl ?_
  refine rhF.ck (fun h17 => ?_)
  refine rhF.get (pc := 47) (rhI _) dX12_numeral_47 fl_X12_259 h17 rfl ?_
  refine rhF.callV (pc := 50) (ci := 12) (embc := rhe1U _) [rhI _, rhI _] dX12_numeral_50 ml_X12_290 mv_X12_fails ⟨_, rfl, rfl⟩ h17 (c_X12_fails _ _ _ _ _ _) (by decide) (by decide) rfl (Nat.le_of_ble_eq_true rfl) (fun r18 _ => ?_)
  exact hk53 _ _ _
set_option maxHeartbeats 4000000 in
set_option maxRecDepth 100000 in
theorem b_X12_numeral_21 {E : rhE} {Γ : rhG} : ∀ (M : rhM) (v0 : Nat) (v1 : Int32) (v2 : Int32), rhF E 6 4 yX12_numeral cX12_numeral (some .int) Γ (rhe1I Γ) (f_X12_numeral_21 Γ M v0 v1 v2) 21 [(0, rhR v0), (1, rhI v1), (2, rhI v2)] [] Γ M := by
  intro M v0 v1 v2
  rw [f_X12_numeral_21]
  refine rhF.aload_n (pc := 21) dX12_numeral_21 0 rfl ?_
  refine rhF.ck (fun h5 => ?_)
  refine rhF.callV (pc := 22) (ci := 12) (embc := rhe0I _ _) [] dX12_numeral_22 ml_X12_294 mv_X12_isGood ⟨_, rfl, rfl⟩ h5 (c_X12_isGood _ _ _ _) (by decide) (by decide) rfl (Nat.le_of_ble_eq_true rfl) (fun r6 _ => ?_)
  refine rhF.if_eq (pc := 25) 53 dX12_numeral_25 (by decide) (fun h7 => ?_) (fun h7 => ?_)
  · refine rhF.sub [0, 1] rfl ?_
    exact (b_X12_numeral_53) _ _ _
  · refine rhF.aload_n (pc := 28) dX12_numeral_28 0 rfl ?_
    refine rhF.get (pc := 29) (rhI _) dX12_numeral_29 fl_X12_284 h5 rfl ?_
    refine rhF.iload_n (pc := 32) dX12_numeral_32 1 rfl ?_
    refine rhF.icmp_lt (pc := 33) 44 dX12_numeral_33 (by decide) (fun h16 => ?_) (fun h16 => ?_)
    · refine rhF.sub [0, 1] rfl ?_
      exact (b_X12_numeral_44 (b_X12_numeral_53)) _ _ _
    · refine rhF.aload_n (pc := 36) dX12_numeral_36 0 rfl ?_
      refine rhF.get (pc := 37) (rhI _) dX12_numeral_37 fl_X12_284 h5 rfl ?_
      refine rhF.iload_n (pc := 40) dX12_numeral_40 2 rfl ?_
      refine rhF.icmp_le (pc := 41) 53 dX12_numeral_41 (by decide) (fun h19 => ?_) (fun h19 => ?_)
      · refine rhF.sub [0, 1] rfl ?_
        exact (b_X12_numeral_44 (b_X12_numeral_53)) _ _ _
      · refine rhF.sub [0, 1] rfl ?_
        exact (b_X12_numeral_53) _ _ _
set_option maxHeartbeats 4000000 in
set_option maxRecDepth 100000 in
theorem b_X12_numeral {E : rhE} {Γ : rhG} : ∀ (M : rhM) (v0 : Nat) (v1 : Int32) (v2 : Int32), rhF E 6 4 yX12_numeral cX12_numeral (some .int) Γ (rhe1I Γ) (f_X12_numeral Γ M v0 v1 v2) 0 [(0, rhR v0), (1, rhI v1), (2, rhI v2)] [] Γ M := by
  intro M v0 v1 v2
  rw [f_X12_numeral]
  refine rhF.aload_n (pc := 0) dX12_numeral_0 0 rfl ?_
  refine rhF.ck (fun h1 => ?_)
  refine rhF.callV (pc := 1) (ci := 12) (embc := rhe0I _ _) [] dX12_numeral_1 ml_X12_294 mv_X12_isGood ⟨_, rfl, rfl⟩ h1 (c_X12_isGood _ _ _ _) (by decide) (by decide) rfl (Nat.le_of_ble_eq_true rfl) (fun r2 _ => ?_)
  refine rhF.if_ne (pc := 4) 9 dX12_numeral_4 (by decide) (fun h3 => ?_) (fun h3 => ?_)
  · refine rhF.iload_n (pc := 7) dX12_numeral_7 1 rfl ?_
    exact rhF.zret (pc := 8) dX12_numeral_8 rfl rfl rfl
  · refine rhF.aload_n (pc := 9) dX12_numeral_9 0 rfl ?_
    refine rhF.get (pc := 10) (rhI _) dX12_numeral_10 fl_X12_266 h1 rfl ?_
    refine rhF.iconst (pc := 13) (v := 4) dX12_numeral_13 (by decide) ?_
    refine rhF.icmp_eq (pc := 14) 21 dX12_numeral_14 (by decide) (fun h4 => ?_) (fun h4 => ?_)
    · exact (b_X12_numeral_21) _ _ _ _
    · refine rhF.aload_n (pc := 17) dX12_numeral_17 0 rfl ?_
      refine rhF.callV (pc := 18) (ci := 12) (embc := rhe1U _) [] dX12_numeral_18 ml_X12_301 mv_X12_misplaced ⟨_, rfl, rfl⟩ h1 (c_X12_misplaced _ _ _ _) (by decide) (by decide) rfl (Nat.le_of_ble_eq_true rfl) (fun r20 _ => ?_)
      exact (b_X12_numeral_21) _ _ _ _
theorem c_X12_numeral (E : rhE) (Γ : rhG) (M : rhM) (v0 : Nat) (v1 : Int32) (v2 : Int32) : ∀ a, f_X12_numeral Γ M v0 v1 v2 = some a → rhC E 6 yX12_numeral cX12_numeral 4 (some .int) [rhR v0, rhI v1, rhI v2] Γ M ((rhe1I Γ) a) := rhF.met (by decide +kernel) (Nat.le_of_ble_eq_true rfl) (b_X12_numeral M v0 v1 v2)
def f_X12_signed_74 (Γ : rhG) (M : rhM) (v0 : Nat) (s0 : Int32) : Option (Int32 × rhM) :=
  rhck (Γ.2.2.1 v0 = 13) <|
  (f_X12_isGood Γ M v0).bind fun r14 =>
  if r14 = 0 then
    (some ((s0, M)))
  else
    (f_X12_goOn Γ M v0).bind fun r16 =>
    some ((s0, r16))
def f_X12_signed_58 (Γ : rhG) (M : rhM) (v0 : Nat) (v3 : Int32) : Option (Int32 × rhM) :=
  if v3 = 0 then
    (rhck (Γ.2.2.1 v0 = 13) <|
    f_X12_signed_74 Γ M v0 (M.1 v0 9))
  else
    rhck (Γ.2.2.1 v0 = 13) <|
    f_X12_signed_74 Γ M v0 (-(M.1 v0 9))
def f_X12_signed_29 (Γ : rhG) (M : rhM) (v0 : Nat) (v1 : Int32) (v2 : Int32) (v3 : Int32) : Option (Int32 × rhM) :=
  rhck (Γ.2.2.1 v0 = 13) <|
  if (M.1 v0 8) = 4 then
    (if v1 < (M.1 v0 9) then
      ((f_X12_fails Γ M v0 (4 : Int32) v2).bind fun r10 =>
      f_X12_signed_58 Γ r10 v0 v3)
    else
      f_X12_signed_58 Γ M v0 v3)
  else
    (f_X12_misplaced Γ M v0).bind fun r18 =>
    f_X12_signed_58 Γ r18 v0 v3
def f_X12_signed (Γ : rhG) (M : rhM) (v0 : Nat) (v1 : Int32) : Option (Int32 × rhM) :=
  rhck (Γ.2.2.1 v0 = 13) <|
  (f_X12_isGood Γ M v0).bind fun r2 =>
  if r2 = 0 then
    (some ((0, M)))
  else
    let x4 := M.1 v0 6
    (f_X12_stands Γ M v0 (45 : Int32)).bind fun r5 =>
    if r5 = 0 then
      (f_X12_signed_29 Γ M v0 v1 x4 r5)
    else
      (f_X12_goOn Γ M v0).bind fun r19 =>
      f_X12_signed_29 Γ r19 v0 v1 x4 r5
set_option maxHeartbeats 4000000 in
set_option maxRecDepth 100000 in
theorem b_X12_signed_74 {E : rhE} {Γ : rhG} : ∀ (M : rhM) (v0 : Nat) (s0 : Int32), rhF E 6 5 yX12_signed cX12_signed (some .int) Γ (rhe1I Γ) (f_X12_signed_74 Γ M v0 s0) 74 [(0, rhR v0)] [rhI s0] Γ M := by
  intro M v0 s0
  rw [f_X12_signed_74]
  refine rhF.istore (pc := 74) (L' := [(4, rhI _), (0, rhR _)]) dX12_signed_74 (by decide) rfl ?_
  refine rhF.aload_n (pc := 76) dX12_signed_76 1 rfl ?_
  refine rhF.ck (fun h13 => ?_)
  refine rhF.callV (pc := 77) (ci := 12) (embc := rhe0I _ _) [] dX12_signed_77 ml_X12_294 mv_X12_isGood ⟨_, rfl, rfl⟩ h13 (c_X12_isGood _ _ _ _) (by decide) (by decide) rfl (Nat.le_of_ble_eq_true rfl) (fun r14 _ => ?_)
  refine rhF.if_eq (pc := 80) 87 dX12_signed_80 (by decide) (fun h15 => ?_) (fun h15 => ?_)
  · refine rhF.iload (pc := 87) dX12_signed_87 0 rfl ?_
    exact rhF.zret (pc := 89) dX12_signed_89 rfl rfl rfl
  · refine rhF.aload_n (pc := 83) dX12_signed_83 1 rfl ?_
    refine rhF.callV (pc := 84) (ci := 12) (embc := rhe1U _) [] dX12_signed_84 ml_X12_298 mv_X12_goOn ⟨_, rfl, rfl⟩ h13 (c_X12_goOn _ _ _ _) (by decide) (by decide) rfl (Nat.le_of_ble_eq_true rfl) (fun r16 _ => ?_)
    refine rhF.iload (pc := 87) dX12_signed_87 0 rfl ?_
    exact rhF.zret (pc := 89) dX12_signed_89 rfl rfl rfl
set_option maxHeartbeats 4000000 in
set_option maxRecDepth 100000 in
theorem b_X12_signed_58 {E : rhE} {Γ : rhG} : ∀ (M : rhM) (v0 : Nat) (v3 : Int32), rhF E 6 5 yX12_signed cX12_signed (some .int) Γ (rhe1I Γ) (f_X12_signed_58 Γ M v0 v3) 58 [(0, rhR v0), (3, rhI v3)] [] Γ M := by
  intro M v0 v3
  rw [f_X12_signed_58]
  refine rhF.iload_n (pc := 58) dX12_signed_58 1 rfl ?_
  refine rhF.if_eq (pc := 59) 70 dX12_signed_59 (by decide) (fun h11 => ?_) (fun h11 => ?_)
  · refine rhF.aload_n (pc := 70) dX12_signed_70 0 rfl ?_
    refine rhF.ck (fun h12 => ?_)
    refine rhF.get (pc := 71) (rhI _) dX12_signed_71 fl_X12_284 h12 rfl ?_
    refine rhF.sub [0] rfl ?_
    exact (b_X12_signed_74) _ _ _
  · refine rhF.aload_n (pc := 62) dX12_signed_62 0 rfl ?_
    refine rhF.ck (fun h17 => ?_)
    refine rhF.get (pc := 63) (rhI _) dX12_signed_63 fl_X12_284 h17 rfl ?_
    refine rhF.ineg (pc := 66) dX12_signed_66 ?_
    refine rhF.goto (pc := 67) 74 dX12_signed_67 (by decide) ?_
    refine rhF.sub [0] rfl ?_
    exact (b_X12_signed_74) _ _ _
set_option maxHeartbeats 4000000 in
set_option maxRecDepth 100000 in
theorem b_X12_signed_29 {E : rhE} {Γ : rhG} : ∀ (M : rhM) (v0 : Nat) (v1 : Int32) (v2 : Int32) (v3 : Int32), rhF E 6 5 yX12_signed cX12_signed (some .int) Γ (rhe1I Γ) (f_X12_signed_29 Γ M v0 v1 v2 v3) 29 [(0, rhR v0), (1, rhI v1), (2, rhI v2), (3, rhI v3)] [] Γ M := by
  intro M v0 v1 v2 v3
  rw [f_X12_signed_29]
  refine rhF.aload_n (pc := 29) dX12_signed_29 0 rfl ?_
  refine rhF.ck (fun h7 => ?_)
  refine rhF.get (pc := 30) (rhI _) dX12_signed_30 fl_X12_266 h7 rfl ?_
  refine rhF.iconst (pc := 33) (v := 4) dX12_signed_33 (by decide) ?_
  refine rhF.icmp_eq (pc := 34) 44 dX12_signed_34 (by decide) (fun h8 => ?_) (fun h8 => ?_)
  · refine rhF.aload_n (pc := 44) dX12_signed_44 0 rfl ?_
    refine rhF.get (pc := 45) (rhI _) dX12_signed_45 fl_X12_284 h7 rfl ?_
    refine rhF.iload_n (pc := 48) dX12_signed_48 1 rfl ?_
    refine rhF.icmp_le (pc := 49) 58 dX12_signed_49 (by decide) (fun h9 => ?_) (fun h9 => ?_)
    · refine rhF.aload_n (pc := 52) dX12_signed_52 0 rfl ?_
      refine rhF.iconst (pc := 53) (v := 4) dX12_signed_53 (by decide) ?_
      refine rhF.iload_n (pc := 54) dX12_signed_54 2 rfl ?_
      refine rhF.callV (pc := 55) (ci := 12) (embc := rhe1U _) [rhI _, rhI _] dX12_signed_55 ml_X12_290 mv_X12_fails ⟨_, rfl, rfl⟩ h7 (c_X12_fails _ _ _ _ _ _) (by decide) (by decide) rfl (Nat.le_of_ble_eq_true rfl) (fun r10 _ => ?_)
      refine rhF.sub [0, 3] rfl ?_
      exact (b_X12_signed_58) _ _ _
    · refine rhF.sub [0, 3] rfl ?_
      exact (b_X12_signed_58) _ _ _
  · refine rhF.aload_n (pc := 37) dX12_signed_37 0 rfl ?_
    refine rhF.callV (pc := 38) (ci := 12) (embc := rhe1U _) [] dX12_signed_38 ml_X12_301 mv_X12_misplaced ⟨_, rfl, rfl⟩ h7 (c_X12_misplaced _ _ _ _) (by decide) (by decide) rfl (Nat.le_of_ble_eq_true rfl) (fun r18 _ => ?_)
    refine rhF.goto (pc := 41) 58 dX12_signed_41 (by decide) ?_
    refine rhF.sub [0, 3] rfl ?_
    exact (b_X12_signed_58) _ _ _
set_option maxHeartbeats 4000000 in
set_option maxRecDepth 100000 in
theorem b_X12_signed {E : rhE} {Γ : rhG} : ∀ (M : rhM) (v0 : Nat) (v1 : Int32), rhF E 6 5 yX12_signed cX12_signed (some .int) Γ (rhe1I Γ) (f_X12_signed Γ M v0 v1) 0 [(0, rhR v0), (1, rhI v1)] [] Γ M := by
  intro M v0 v1
  rw [f_X12_signed]
  refine rhF.aload_n (pc := 0) dX12_signed_0 0 rfl ?_
  refine rhF.ck (fun h1 => ?_)
  refine rhF.callV (pc := 1) (ci := 12) (embc := rhe0I _ _) [] dX12_signed_1 ml_X12_294 mv_X12_isGood ⟨_, rfl, rfl⟩ h1 (c_X12_isGood _ _ _ _) (by decide) (by decide) rfl (Nat.le_of_ble_eq_true rfl) (fun r2 _ => ?_)
  refine rhF.if_ne (pc := 4) 9 dX12_signed_4 (by decide) (fun h3 => ?_) (fun h3 => ?_)
  · refine rhF.iconst (pc := 7) (v := 0) dX12_signed_7 (by decide) ?_
    exact rhF.zret (pc := 8) dX12_signed_8 rfl rfl rfl
  · refine rhF.aload_n (pc := 9) dX12_signed_9 0 rfl ?_
    refine rhF.get (pc := 10) (rhI _) dX12_signed_10 fl_X12_259 h1 rfl ?_
    refine rhF.istore_n (pc := 13) (L' := [(2, rhI _), (0, rhR _), (1, rhI _)]) dX12_signed_13 (by decide) rfl ?_
    refine rhF.aload_n (pc := 14) dX12_signed_14 1 rfl ?_
    refine rhF.bipush (pc := 15) (v := 45) dX12_signed_15 (by decide) ?_
    refine rhF.callV (pc := 17) (ci := 12) (embc := rhe0I _ _) [rhI _] dX12_signed_17 ml_X12_315 mv_X12_stands ⟨_, rfl, rfl⟩ h1 (c_X12_stands _ _ _ _ _) (by decide) (by decide) rfl (Nat.le_of_ble_eq_true rfl) (fun r5 _ => ?_)
    refine rhF.istore_n (pc := 20) (L' := [(3, rhI _), (2, rhI _), (0, rhR _), (1, rhI _)]) dX12_signed_20 (by decide) rfl ?_
    refine rhF.iload_n (pc := 21) dX12_signed_21 0 rfl ?_
    refine rhF.if_eq (pc := 22) 29 dX12_signed_22 (by decide) (fun h6 => ?_) (fun h6 => ?_)
    · refine rhF.sub [2, 3, 1, 0] rfl ?_
      exact (b_X12_signed_29) _ _ _ _ _
    · refine rhF.aload_n (pc := 25) dX12_signed_25 2 rfl ?_
      refine rhF.callV (pc := 26) (ci := 12) (embc := rhe1U _) [] dX12_signed_26 ml_X12_298 mv_X12_goOn ⟨_, rfl, rfl⟩ h1 (c_X12_goOn _ _ _ _) (by decide) (by decide) rfl (Nat.le_of_ble_eq_true rfl) (fun r19 _ => ?_)
      refine rhF.sub [2, 3, 1, 0] rfl ?_
      exact (b_X12_signed_29) _ _ _ _ _
theorem c_X12_signed (E : rhE) (Γ : rhG) (M : rhM) (v0 : Nat) (v1 : Int32) : ∀ a, f_X12_signed Γ M v0 v1 = some a → rhC E 6 yX12_signed cX12_signed 5 (some .int) [rhR v0, rhI v1] Γ M ((rhe1I Γ) a) := rhF.met (by decide +kernel) (Nat.le_of_ble_eq_true rfl) (b_X12_signed M v0 v1)
def f_X12_readBeside_63 (Γ : rhG) (M : rhM) (v0 : Nat) (v1 : Int32) (v2 : Int32) (v3 : Int32) : Option (rhM) :=
  rhck (Γ.2.2.1 v0 = 13) <|
  (f_X12_known Γ M v0 v2).bind fun r10 =>
  let x11 := r10.1
  (f_X12_isWord Γ r10.2 v0 ((512970880104 : Int64))).bind fun r12 =>
  (f_X12_must Γ r10.2 v0 r12).bind fun r13 =>
  (f_X12_signed Γ r13 v0 (99 : Int32)).bind fun r14 =>
  let x15 := r14.1
  (f_X12_isGood Γ r14.2 v0).bind fun r16 =>
  if r16 = 0 then
    (some r14.2)
  else
    rhck (Γ.2.2.1 (r14.2.2.2 v0 22) = 15) <|
    rhck (0 ≤ (v3 + x11).toInt ∧ (v3 + x11).toInt < (Γ.2.2.2 (r14.2.2.2 v0 22) : Nat)) <|
    let M20 := rhsi r14.2 (r14.2.2.2 v0 22) (v3 + x11 : Int32).toNatClampNeg x15
    rhck (0 ≤ (((64 * (M20.1 v0 35)) + (8 * x11)) + v1).toInt ∧ (((64 * (M20.1 v0 35)) + (8 * x11)) + v1).toInt < (Γ.2.2.2 (r14.2.2.2 v0 22) : Nat)) <|
    let M22 := rhsi M20 (r14.2.2.2 v0 22) (((64 * (M20.1 v0 35)) + (8 * x11)) + v1 : Int32).toNatClampNeg x15
    rhck (Γ.2.2.1 (r14.2.2.2 v0 26) = 17) <|
    rhck (0 ≤ (v3 + x11).toInt ∧ (v3 + x11).toInt < (Γ.2.2.2 (r14.2.2.2 v0 26) : Nat)) <|
    let M25 := rhsi M22 (r14.2.2.2 v0 26) (v3 + x11 : Int32).toNatClampNeg (vp_nar .boolean 1)
    rhck (0 ≤ (((64 * (M25.1 v0 35)) + (8 * x11)) + v1).toInt ∧ (((64 * (M25.1 v0 35)) + (8 * x11)) + v1).toInt < (Γ.2.2.2 (r14.2.2.2 v0 26) : Nat)) <|
    let M27 := rhsi M25 (r14.2.2.2 v0 26) (((64 * (M25.1 v0 35)) + (8 * x11)) + v1 : Int32).toNatClampNeg (vp_nar .boolean 1)
    rhck (Γ.2.2.1 (r14.2.2.2 v0 13) = 15) <|
    rhck (0 ≤ (M27.1 v0 35).toInt ∧ (M27.1 v0 35).toInt < (Γ.2.2.2 (r14.2.2.2 v0 13) : Nat)) <|
    let M30 := rhsi M27 (r14.2.2.2 v0 13) (M27.1 v0 35 : Int32).toNatClampNeg ((M27.1 (r14.2.2.2 v0 13) (M27.1 v0 35).toNatClampNeg) + 1)
    some M30
def f_X12_readBeside_54 (k63 : rhM → Nat → Int32 → Int32 → Int32 → Option (rhM)) (Γ : rhG) (M : rhM) (v0 : Nat) (v1 : Int32) (v2 : Int32) (v3 : Int32) : Option (rhM) :=
  rhck (Γ.2.2.1 v0 = 13) <|
  (f_X12_fails Γ M v0 (3 : Int32) (M.1 v0 6)).bind fun r34 =>
  k63 r34 v0 v1 v2 v3
def f_X12_readBeside (Γ : rhG) (M : rhM) (v0 : Nat) : Option (rhM) :=
  rhck (Γ.2.2.1 v0 = 13) <|
  (f_X12_houseHere Γ M v0).bind fun r2 =>
  (f_X12_known Γ M v0 r2).bind fun r3 =>
  let x4 := r3.1
  (f_X12_houseHere Γ r3.2 v0).bind fun r5 =>
  let x6 := (64 * (r3.2.1 v0 35)) + (8 * x4)
  (f_X12_isGood Γ r3.2 v0).bind fun r7 =>
  if r7 = 0 then
    (f_X12_readBeside_63 Γ r3.2 v0 x4 r5 x6)
  else
    if r5 < 0 then
      (f_X12_readBeside_63 Γ r3.2 v0 x4 r5 x6)
    else
      if x4 = r5 then
        (f_X12_readBeside_54 (f_X12_readBeside_63 Γ) Γ r3.2 v0 x4 r5 x6)
      else
        rhck (Γ.2.2.1 (r3.2.2.2 v0 26) = 17) <|
        rhck (0 ≤ (x6 + r5).toInt ∧ (x6 + r5).toInt < (Γ.2.2.2 (r3.2.2.2 v0 26) : Nat)) <|
        if (r3.2.1 (r3.2.2.2 v0 26) (x6 + r5).toNatClampNeg) = 0 then
          (f_X12_readBeside_63 Γ r3.2 v0 x4 r5 x6)
        else
          f_X12_readBeside_54 (f_X12_readBeside_63 Γ) Γ r3.2 v0 x4 r5 x6
set_option maxHeartbeats 4000000 in
set_option maxRecDepth 100000 in
theorem b_X12_readBeside_63 {E : rhE} {Γ : rhG} : ∀ (M : rhM) (v0 : Nat) (v1 : Int32) (v2 : Int32) (v3 : Int32), rhF E 7 5 yX12_readBeside cX12_readBeside none Γ (rhe1U Γ) (f_X12_readBeside_63 Γ M v0 v1 v2 v3) 63 [(0, rhR v0), (1, rhI v1), (2, rhI v2), (3, rhI v3)] [] Γ M := by
  intro M v0 v1 v2 v3
  rw [f_X12_readBeside_63]
  refine rhF.aload_n (pc := 63) dX12_readBeside_63 0 rfl ?_
  refine rhF.iload_n (pc := 64) dX12_readBeside_64 2 rfl ?_
  refine rhF.ck (fun h9 => ?_)
  refine rhF.callV (pc := 65) (ci := 12) (embc := rhe1I _) [rhI _] dX12_readBeside_65 ml_X12_379 mv_X12_known ⟨_, rfl, rfl⟩ h9 (c_X12_known _ _ _ _ _) (by decide) (by decide) rfl (Nat.le_of_ble_eq_true rfl) (fun r10 _ => ?_)
  refine rhF.istore_n (pc := 68) (L' := [(2, rhI _), (0, rhR _), (1, rhI _), (3, rhI _)]) dX12_readBeside_68 (by decide) rfl ?_
  refine rhF.aload_n (pc := 69) dX12_readBeside_69 1 rfl ?_
  refine rhF.aload_n (pc := 70) dX12_readBeside_70 1 rfl ?_
  refine rhF.ldc2 (pc := 71) dX12_readBeside_71 k_X12_232 ?_
  refine rhF.callV (pc := 74) (ci := 12) (embc := rhe0I _ _) [rhJ _] dX12_readBeside_74 ml_X12_304 mv_X12_isWord ⟨_, rfl, rfl⟩ h9 (c_X12_isWord _ _ _ _ _) (by decide) (by decide) rfl (Nat.le_of_ble_eq_true rfl) (fun r12 _ => ?_)
  refine rhF.callV (pc := 77) (ci := 12) (embc := rhe1U _) [rhI _] dX12_readBeside_77 ml_X12_307 mv_X12_must ⟨_, rfl, rfl⟩ h9 (c_X12_must _ _ _ _ _) (by decide) (by decide) rfl (Nat.le_of_ble_eq_true rfl) (fun r13 _ => ?_)
  refine rhF.aload_n (pc := 80) dX12_readBeside_80 1 rfl ?_
  refine rhF.bipush (pc := 81) (v := 99) dX12_readBeside_81 (by decide) ?_
  refine rhF.callV (pc := 83) (ci := 12) (embc := rhe1I _) [rhI _] dX12_readBeside_83 ml_X12_382 mv_X12_signed ⟨_, rfl, rfl⟩ h9 (c_X12_signed _ _ _ _ _) (by decide) (by decide) rfl (Nat.le_of_ble_eq_true rfl) (fun r14 _ => ?_)
  refine rhF.istore (pc := 86) (L' := [(4, rhI _), (2, rhI _), (0, rhR _), (1, rhI _), (3, rhI _)]) dX12_readBeside_86 (by decide) rfl ?_
  refine rhF.aload_n (pc := 88) dX12_readBeside_88 2 rfl ?_
  refine rhF.callV (pc := 89) (ci := 12) (embc := rhe0I _ _) [] dX12_readBeside_89 ml_X12_294 mv_X12_isGood ⟨_, rfl, rfl⟩ h9 (c_X12_isGood _ _ _ _) (by decide) (by decide) rfl (Nat.le_of_ble_eq_true rfl) (fun r16 _ => ?_)
  refine rhF.if_ne (pc := 92) 96 dX12_readBeside_92 (by decide) (fun h17 => ?_) (fun h17 => ?_)
  · exact rhF.vret (pc := 95) dX12_readBeside_95 rfl rfl
  · refine rhF.aload_n (pc := 96) dX12_readBeside_96 2 rfl ?_
    refine rhF.get (pc := 97) (rhR _) dX12_readBeside_97 fl_X12_54 h9 rfl ?_
    refine rhF.iload_n (pc := 100) dX12_readBeside_100 4 rfl ?_
    refine rhF.iload_n (pc := 101) dX12_readBeside_101 1 rfl ?_
    refine rhF.iadd (pc := 102) dX12_readBeside_102 ?_
    refine rhF.iload (pc := 103) dX12_readBeside_103 0 rfl ?_
    refine rhF.ck (fun h18 => ?_)
    refine rhF.ck (fun h19 => ?_)
    refine rhF.iast (pc := 105) dX12_readBeside_105 h18 h19 ?_
    refine rhF.aload_n (pc := 106) dX12_readBeside_106 2 rfl ?_
    refine rhF.get (pc := 107) (rhR _) dX12_readBeside_107 fl_X12_54 h9 rfl ?_
    refine rhF.bipush (pc := 110) (v := 64) dX12_readBeside_110 (by decide) ?_
    refine rhF.aload_n (pc := 112) dX12_readBeside_112 2 rfl ?_
    refine rhF.get (pc := 113) (rhI _) dX12_readBeside_113 fl_X12_318 h9 rfl ?_
    refine rhF.imul (pc := 116) dX12_readBeside_116 ?_
    refine rhF.bipush (pc := 117) (v := 8) dX12_readBeside_117 (by decide) ?_
    refine rhF.iload_n (pc := 119) dX12_readBeside_119 1 rfl ?_
    refine rhF.imul (pc := 120) dX12_readBeside_120 ?_
    refine rhF.iadd (pc := 121) dX12_readBeside_121 ?_
    refine rhF.iload_n (pc := 122) dX12_readBeside_122 3 rfl ?_
    refine rhF.iadd (pc := 123) dX12_readBeside_123 ?_
    refine rhF.iload (pc := 124) dX12_readBeside_124 0 rfl ?_
    refine rhF.ck (fun h21 => ?_)
    refine rhF.iast (pc := 126) dX12_readBeside_126 h18 h21 ?_
    refine rhF.aload_n (pc := 127) dX12_readBeside_127 2 rfl ?_
    refine rhF.get (pc := 128) (rhR _) dX12_readBeside_128 fl_X12_67 h9 rfl ?_
    refine rhF.iload_n (pc := 131) dX12_readBeside_131 4 rfl ?_
    refine rhF.iload_n (pc := 132) dX12_readBeside_132 1 rfl ?_
    refine rhF.iadd (pc := 133) dX12_readBeside_133 ?_
    refine rhF.iconst (pc := 134) (v := 1) dX12_readBeside_134 (by decide) ?_
    refine rhF.ck (fun h23 => ?_)
    refine rhF.ck (fun h24 => ?_)
    refine rhF.zast (pc := 135) dX12_readBeside_135 h23 h24 ?_
    refine rhF.aload_n (pc := 136) dX12_readBeside_136 2 rfl ?_
    refine rhF.get (pc := 137) (rhR _) dX12_readBeside_137 fl_X12_67 h9 rfl ?_
    refine rhF.bipush (pc := 140) (v := 64) dX12_readBeside_140 (by decide) ?_
    refine rhF.aload_n (pc := 142) dX12_readBeside_142 2 rfl ?_
    refine rhF.get (pc := 143) (rhI _) dX12_readBeside_143 fl_X12_318 h9 rfl ?_
    refine rhF.imul (pc := 146) dX12_readBeside_146 ?_
    refine rhF.bipush (pc := 147) (v := 8) dX12_readBeside_147 (by decide) ?_
    refine rhF.iload_n (pc := 149) dX12_readBeside_149 1 rfl ?_
    refine rhF.imul (pc := 150) dX12_readBeside_150 ?_
    refine rhF.iadd (pc := 151) dX12_readBeside_151 ?_
    refine rhF.iload_n (pc := 152) dX12_readBeside_152 3 rfl ?_
    refine rhF.iadd (pc := 153) dX12_readBeside_153 ?_
    refine rhF.iconst (pc := 154) (v := 1) dX12_readBeside_154 (by decide) ?_
    refine rhF.ck (fun h26 => ?_)
    refine rhF.zast (pc := 155) dX12_readBeside_155 h23 h26 ?_
    refine rhF.aload_n (pc := 156) dX12_readBeside_156 2 rfl ?_
    refine rhF.get (pc := 157) (rhR _) dX12_readBeside_157 fl_X12_27 h9 rfl ?_
    refine rhF.aload_n (pc := 160) dX12_readBeside_160 2 rfl ?_
    refine rhF.get (pc := 161) (rhI _) dX12_readBeside_161 fl_X12_318 h9 rfl ?_
    refine rhF.dup2ri (pc := 164) dX12_readBeside_164 ?_
    refine rhF.ck (fun h28 => ?_)
    refine rhF.ck (fun h29 => ?_)
    refine rhF.iald (pc := 165) dX12_readBeside_165 h28 h29 ?_
    refine rhF.iconst (pc := 166) (v := 1) dX12_readBeside_166 (by decide) ?_
    refine rhF.iadd (pc := 167) dX12_readBeside_167 ?_
    refine rhF.iast (pc := 168) dX12_readBeside_168 h28 h29 ?_
    exact rhF.vret (pc := 169) dX12_readBeside_169 rfl rfl
set_option maxHeartbeats 4000000 in
set_option maxRecDepth 100000 in
theorem b_X12_readBeside_54 {E : rhE} {Γ : rhG} {k63 : rhM → Nat → Int32 → Int32 → Int32 → Option (rhM)} (hk63 : ∀ (M : rhM) (v0 : Nat) (v1 : Int32) (v2 : Int32) (v3 : Int32), rhF E 7 5 yX12_readBeside cX12_readBeside none Γ (rhe1U Γ) (k63 M v0 v1 v2 v3) 63 [(0, rhR v0), (1, rhI v1), (2, rhI v2), (3, rhI v3)] [] Γ M) : ∀ (M : rhM) (v0 : Nat) (v1 : Int32) (v2 : Int32) (v3 : Int32), rhF E 7 5 yX12_readBeside cX12_readBeside none Γ (rhe1U Γ) (f_X12_readBeside_54 k63 Γ M v0 v1 v2 v3) 54 [(0, rhR v0), (1, rhI v1), (2, rhI v2), (3, rhI v3)] [] Γ M := by
  intro M v0 v1 v2 v3
  rw [f_X12_readBeside_54]
  refine rhF.aload_n (pc := 54) dX12_readBeside_54 0 rfl ?_
  refine rhF.iconst (pc := 55) (v := 3) dX12_readBeside_55 (by decide) ?_
  refine rhF.aload_n (pc := 56) dX12_readBeside_56 0 rfl ?_
  refine rhF.ck (fun h33 => ?_)
  refine rhF.get (pc := 57) (rhI _) dX12_readBeside_57 fl_X12_259 h33 rfl ?_
  refine rhF.callV (pc := 60) (ci := 12) (embc := rhe1U _) [rhI _, rhI _] dX12_readBeside_60 ml_X12_290 mv_X12_fails ⟨_, rfl, rfl⟩ h33 (c_X12_fails _ _ _ _ _ _) (by decide) (by decide) rfl (Nat.le_of_ble_eq_true rfl) (fun r34 _ => ?_)
  exact hk63 _ _ _ _ _
set_option maxHeartbeats 4000000 in
set_option maxRecDepth 100000 in
theorem b_X12_readBeside {E : rhE} {Γ : rhG} : ∀ (M : rhM) (v0 : Nat), rhF E 7 5 yX12_readBeside cX12_readBeside none Γ (rhe1U Γ) (f_X12_readBeside Γ M v0) 0 [(0, rhR v0)] [] Γ M := by
  intro M v0
  rw [f_X12_readBeside]
  refine rhF.aload_n (pc := 0) dX12_readBeside_0 0 rfl ?_
  refine rhF.aload_n (pc := 1) dX12_readBeside_1 0 rfl ?_
  refine rhF.ck (fun h1 => ?_)
  refine rhF.callV (pc := 2) (ci := 12) (embc := rhe0I _ _) [] dX12_readBeside_2 ml_X12_376 mv_X12_houseHere ⟨_, rfl, rfl⟩ h1 (c_X12_houseHere _ _ _ _) (by decide) (by decide) rfl (Nat.le_of_ble_eq_true rfl) (fun r2 _ => ?_)
  refine rhF.callV (pc := 5) (ci := 12) (embc := rhe1I _) [rhI _] dX12_readBeside_5 ml_X12_379 mv_X12_known ⟨_, rfl, rfl⟩ h1 (c_X12_known _ _ _ _ _) (by decide) (by decide) rfl (Nat.le_of_ble_eq_true rfl) (fun r3 _ => ?_)
  refine rhF.istore_n (pc := 8) (L' := [(1, rhI _), (0, rhR _)]) dX12_readBeside_8 (by decide) rfl ?_
  refine rhF.aload_n (pc := 9) dX12_readBeside_9 1 rfl ?_
  refine rhF.callV (pc := 10) (ci := 12) (embc := rhe0I _ _) [] dX12_readBeside_10 ml_X12_376 mv_X12_houseHere ⟨_, rfl, rfl⟩ h1 (c_X12_houseHere _ _ _ _) (by decide) (by decide) rfl (Nat.le_of_ble_eq_true rfl) (fun r5 _ => ?_)
  refine rhF.istore_n (pc := 13) (L' := [(2, rhI _), (1, rhI _), (0, rhR _)]) dX12_readBeside_13 (by decide) rfl ?_
  refine rhF.bipush (pc := 14) (v := 64) dX12_readBeside_14 (by decide) ?_
  refine rhF.aload_n (pc := 16) dX12_readBeside_16 2 rfl ?_
  refine rhF.get (pc := 17) (rhI _) dX12_readBeside_17 fl_X12_318 h1 rfl ?_
  refine rhF.imul (pc := 20) dX12_readBeside_20 ?_
  refine rhF.bipush (pc := 21) (v := 8) dX12_readBeside_21 (by decide) ?_
  refine rhF.iload_n (pc := 23) dX12_readBeside_23 1 rfl ?_
  refine rhF.imul (pc := 24) dX12_readBeside_24 ?_
  refine rhF.iadd (pc := 25) dX12_readBeside_25 ?_
  refine rhF.istore_n (pc := 26) (L' := [(3, rhI _), (2, rhI _), (1, rhI _), (0, rhR _)]) dX12_readBeside_26 (by decide) rfl ?_
  refine rhF.aload_n (pc := 27) dX12_readBeside_27 3 rfl ?_
  refine rhF.callV (pc := 28) (ci := 12) (embc := rhe0I _ _) [] dX12_readBeside_28 ml_X12_294 mv_X12_isGood ⟨_, rfl, rfl⟩ h1 (c_X12_isGood _ _ _ _) (by decide) (by decide) rfl (Nat.le_of_ble_eq_true rfl) (fun r7 _ => ?_)
  refine rhF.if_eq (pc := 31) 63 dX12_readBeside_31 (by decide) (fun h8 => ?_) (fun h8 => ?_)
  · refine rhF.sub [3, 2, 1, 0] rfl ?_
    exact (b_X12_readBeside_63) _ _ _ _ _
  · refine rhF.iload_n (pc := 34) dX12_readBeside_34 1 rfl ?_
    refine rhF.if_lt (pc := 35) 63 dX12_readBeside_35 (by decide) (fun h31 => ?_) (fun h31 => ?_)
    · refine rhF.sub [3, 2, 1, 0] rfl ?_
      exact (b_X12_readBeside_63) _ _ _ _ _
    · refine rhF.iload_n (pc := 38) dX12_readBeside_38 2 rfl ?_
      refine rhF.iload_n (pc := 39) dX12_readBeside_39 1 rfl ?_
      refine rhF.icmp_eq (pc := 40) 54 dX12_readBeside_40 (by decide) (fun h32 => ?_) (fun h32 => ?_)
      · refine rhF.sub [3, 2, 1, 0] rfl ?_
        exact (b_X12_readBeside_54 (b_X12_readBeside_63)) _ _ _ _ _
      · refine rhF.aload_n (pc := 43) dX12_readBeside_43 3 rfl ?_
        refine rhF.get (pc := 44) (rhR _) dX12_readBeside_44 fl_X12_67 h1 rfl ?_
        refine rhF.iload_n (pc := 47) dX12_readBeside_47 0 rfl ?_
        refine rhF.iload_n (pc := 48) dX12_readBeside_48 1 rfl ?_
        refine rhF.iadd (pc := 49) dX12_readBeside_49 ?_
        refine rhF.ck (fun h35 => ?_)
        refine rhF.ck (fun h36 => ?_)
        refine rhF.zald (pc := 50) dX12_readBeside_50 h35 h36 ?_
        refine rhF.if_eq (pc := 51) 63 dX12_readBeside_51 (by decide) (fun h37 => ?_) (fun h37 => ?_)
        · refine rhF.sub [3, 2, 1, 0] rfl ?_
          exact (b_X12_readBeside_63) _ _ _ _ _
        · refine rhF.sub [3, 2, 1, 0] rfl ?_
          exact (b_X12_readBeside_54 (b_X12_readBeside_63)) _ _ _ _ _
theorem c_X12_readBeside (E : rhE) (Γ : rhG) (M : rhM) (v0 : Nat) : ∀ a, f_X12_readBeside Γ M v0 = some a → rhC E 7 yX12_readBeside cX12_readBeside 5 none [rhR v0] Γ M ((rhe1U Γ) a) := rhF.met (by decide +kernel) (Nat.le_of_ble_eq_true rfl) (b_X12_readBeside M v0)
def f_X12_after (Γ : rhG) (M : rhM) (v0 : Nat) (v1 : Int64) (v3 : Int32) (v4 : Int32) : Option (Int32 × rhM) :=
  rhck (Γ.2.2.1 v0 = 13) <|
  (f_X12_isWord Γ M v0 v1).bind fun r2 =>
  (f_X12_must Γ M v0 r2).bind fun r3 =>
  (f_X12_numeral Γ r3 v0 v3 v4).bind fun r4 =>
  some ((r4.1, r4.2))
set_option maxHeartbeats 4000000 in
set_option maxRecDepth 100000 in
theorem b_X12_after {E : rhE} {Γ : rhG} : ∀ (M : rhM) (v0 : Nat) (v1 : Int64) (v3 : Int32) (v4 : Int32), rhF E 7 5 yX12_after cX12_after (some .int) Γ (rhe1I Γ) (f_X12_after Γ M v0 v1 v3 v4) 0 [(0, rhR v0), (1, rhJ v1), (3, rhI v3), (4, rhI v4)] [] Γ M := by
  intro M v0 v1 v3 v4
  rw [f_X12_after]
  refine rhF.aload_n (pc := 0) dX12_after_0 0 rfl ?_
  refine rhF.aload_n (pc := 1) dX12_after_1 0 rfl ?_
  refine rhF.lload_n (pc := 2) dX12_after_2 1 rfl ?_
  refine rhF.ck (fun h1 => ?_)
  refine rhF.callV (pc := 3) (ci := 12) (embc := rhe0I _ _) [rhJ _] dX12_after_3 ml_X12_304 mv_X12_isWord ⟨_, rfl, rfl⟩ h1 (c_X12_isWord _ _ _ _ _) (by decide) (by decide) rfl (Nat.le_of_ble_eq_true rfl) (fun r2 _ => ?_)
  refine rhF.callV (pc := 6) (ci := 12) (embc := rhe1U _) [rhI _] dX12_after_6 ml_X12_307 mv_X12_must ⟨_, rfl, rfl⟩ h1 (c_X12_must _ _ _ _ _) (by decide) (by decide) rfl (Nat.le_of_ble_eq_true rfl) (fun r3 _ => ?_)
  refine rhF.aload_n (pc := 9) dX12_after_9 0 rfl ?_
  refine rhF.iload_n (pc := 10) dX12_after_10 2 rfl ?_
  refine rhF.iload (pc := 11) dX12_after_11 3 rfl ?_
  refine rhF.callV (pc := 13) (ci := 12) (embc := rhe1I _) [rhI _, rhI _] dX12_after_13 ml_X12_311 mv_X12_numeral ⟨_, rfl, rfl⟩ h1 (c_X12_numeral _ _ _ _ _ _) (by decide) (by decide) rfl (Nat.le_of_ble_eq_true rfl) (fun r4 _ => ?_)
  exact rhF.zret (pc := 16) dX12_after_16 rfl rfl rfl
theorem c_X12_after (E : rhE) (Γ : rhG) (M : rhM) (v0 : Nat) (v1 : Int64) (v3 : Int32) (v4 : Int32) : ∀ a, f_X12_after Γ M v0 v1 v3 v4 = some a → rhC E 7 yX12_after cX12_after 5 (some .int) [rhR v0, rhJ v1, rhI v3, rhI v4] Γ M ((rhe1I Γ) a) := rhF.met (by decide +kernel) (Nat.le_of_ble_eq_true rfl) (b_X12_after M v0 v1 v3 v4)
def f_X12_fresh_37 (Γ : rhG) (M : rhM) (v0 : Nat) : Option (Int64 × rhM) :=
  rhck (Γ.2.2.1 v0 = 13) <|
  let x7 := M.2.1 v0 10
  (f_X12_isGood Γ M v0).bind fun r8 =>
  if r8 = 0 then
    (some ((x7, M)))
  else
    (f_X12_goOn Γ M v0).bind fun r10 =>
    some ((x7, r10))
def f_X12_fresh (Γ : rhG) (M : rhM) (v0 : Nat) (v1 : Int32) : Option (Int64 × rhM) :=
  rhck (Γ.2.2.1 v0 = 13) <|
  (f_X12_isGood Γ M v0).bind fun r2 =>
  if r2 = 0 then
    (some (((0 : Int64), M)))
  else
    if (M.1 v0 8) = 2 then
      (if v1 = 0 then
        (f_X12_fresh_37 Γ M v0)
      else
        (f_X12_fails Γ M v0 (3 : Int32) (M.1 v0 6)).bind fun r11 =>
        f_X12_fresh_37 Γ r11 v0)
    else
      (f_X12_misplaced Γ M v0).bind fun r12 =>
      f_X12_fresh_37 Γ r12 v0
set_option maxHeartbeats 4000000 in
set_option maxRecDepth 100000 in
theorem b_X12_fresh_37 {E : rhE} {Γ : rhG} : ∀ (M : rhM) (v0 : Nat), rhF E 6 4 yX12_fresh cX12_fresh (some .long) Γ (rhe1J Γ) (f_X12_fresh_37 Γ M v0) 37 [(0, rhR v0)] [] Γ M := by
  intro M v0
  rw [f_X12_fresh_37]
  refine rhF.aload_n (pc := 37) dX12_fresh_37 0 rfl ?_
  refine rhF.ck (fun h6 => ?_)
  refine rhF.get (pc := 38) (rhJ _) dX12_fresh_38 fl_X12_273 h6 rfl ?_
  refine rhF.lstore_n (pc := 41) (L' := [(2, rhJ _), (0, rhR _)]) dX12_fresh_41 (by decide) rfl ?_
  refine rhF.aload_n (pc := 42) dX12_fresh_42 1 rfl ?_
  refine rhF.callV (pc := 43) (ci := 12) (embc := rhe0I _ _) [] dX12_fresh_43 ml_X12_294 mv_X12_isGood ⟨_, rfl, rfl⟩ h6 (c_X12_isGood _ _ _ _) (by decide) (by decide) rfl (Nat.le_of_ble_eq_true rfl) (fun r8 _ => ?_)
  refine rhF.if_eq (pc := 46) 53 dX12_fresh_46 (by decide) (fun h9 => ?_) (fun h9 => ?_)
  · refine rhF.lload_n (pc := 53) dX12_fresh_53 0 rfl ?_
    exact rhF.lret (pc := 54) dX12_fresh_54 rfl rfl
  · refine rhF.aload_n (pc := 49) dX12_fresh_49 1 rfl ?_
    refine rhF.callV (pc := 50) (ci := 12) (embc := rhe1U _) [] dX12_fresh_50 ml_X12_298 mv_X12_goOn ⟨_, rfl, rfl⟩ h6 (c_X12_goOn _ _ _ _) (by decide) (by decide) rfl (Nat.le_of_ble_eq_true rfl) (fun r10 _ => ?_)
    refine rhF.lload_n (pc := 53) dX12_fresh_53 0 rfl ?_
    exact rhF.lret (pc := 54) dX12_fresh_54 rfl rfl
set_option maxHeartbeats 4000000 in
set_option maxRecDepth 100000 in
theorem b_X12_fresh {E : rhE} {Γ : rhG} : ∀ (M : rhM) (v0 : Nat) (v1 : Int32), rhF E 6 4 yX12_fresh cX12_fresh (some .long) Γ (rhe1J Γ) (f_X12_fresh Γ M v0 v1) 0 [(0, rhR v0), (1, rhI v1)] [] Γ M := by
  intro M v0 v1
  rw [f_X12_fresh]
  refine rhF.aload_n (pc := 0) dX12_fresh_0 0 rfl ?_
  refine rhF.ck (fun h1 => ?_)
  refine rhF.callV (pc := 1) (ci := 12) (embc := rhe0I _ _) [] dX12_fresh_1 ml_X12_294 mv_X12_isGood ⟨_, rfl, rfl⟩ h1 (c_X12_isGood _ _ _ _) (by decide) (by decide) rfl (Nat.le_of_ble_eq_true rfl) (fun r2 _ => ?_)
  refine rhF.if_ne (pc := 4) 9 dX12_fresh_4 (by decide) (fun h3 => ?_) (fun h3 => ?_)
  · refine rhF.lconst (pc := 7) (v := 0) dX12_fresh_7 (by decide) ?_
    exact rhF.lret (pc := 8) dX12_fresh_8 rfl rfl
  · refine rhF.aload_n (pc := 9) dX12_fresh_9 0 rfl ?_
    refine rhF.get (pc := 10) (rhI _) dX12_fresh_10 fl_X12_266 h1 rfl ?_
    refine rhF.iconst (pc := 13) (v := 2) dX12_fresh_13 (by decide) ?_
    refine rhF.icmp_eq (pc := 14) 24 dX12_fresh_14 (by decide) (fun h4 => ?_) (fun h4 => ?_)
    · refine rhF.iload_n (pc := 24) dX12_fresh_24 1 rfl ?_
      refine rhF.if_eq (pc := 25) 37 dX12_fresh_25 (by decide) (fun h5 => ?_) (fun h5 => ?_)
      · refine rhF.sub [0] rfl ?_
        exact (b_X12_fresh_37) _ _
      · refine rhF.aload_n (pc := 28) dX12_fresh_28 0 rfl ?_
        refine rhF.iconst (pc := 29) (v := 3) dX12_fresh_29 (by decide) ?_
        refine rhF.aload_n (pc := 30) dX12_fresh_30 0 rfl ?_
        refine rhF.get (pc := 31) (rhI _) dX12_fresh_31 fl_X12_259 h1 rfl ?_
        refine rhF.callV (pc := 34) (ci := 12) (embc := rhe1U _) [rhI _, rhI _] dX12_fresh_34 ml_X12_290 mv_X12_fails ⟨_, rfl, rfl⟩ h1 (c_X12_fails _ _ _ _ _ _) (by decide) (by decide) rfl (Nat.le_of_ble_eq_true rfl) (fun r11 _ => ?_)
        refine rhF.sub [0] rfl ?_
        exact (b_X12_fresh_37) _ _
    · refine rhF.aload_n (pc := 17) dX12_fresh_17 0 rfl ?_
      refine rhF.callV (pc := 18) (ci := 12) (embc := rhe1U _) [] dX12_fresh_18 ml_X12_301 mv_X12_misplaced ⟨_, rfl, rfl⟩ h1 (c_X12_misplaced _ _ _ _) (by decide) (by decide) rfl (Nat.le_of_ble_eq_true rfl) (fun r12 _ => ?_)
      refine rhF.goto (pc := 21) 37 dX12_fresh_21 (by decide) ?_
      refine rhF.sub [0] rfl ?_
      exact (b_X12_fresh_37) _ _
theorem c_X12_fresh (E : rhE) (Γ : rhG) (M : rhM) (v0 : Nat) (v1 : Int32) : ∀ a, f_X12_fresh Γ M v0 v1 = some a → rhC E 6 yX12_fresh cX12_fresh 4 (some .long) [rhR v0, rhI v1] Γ M ((rhe1J Γ) a) := rhF.met (by decide +kernel) (Nat.le_of_ble_eq_true rfl) (b_X12_fresh M v0 v1)
def f_X12_railHere (Γ : rhG) (M : rhM) (v0 : Nat) : Option (Int32) :=
  rhck (Γ.2.2.1 v0 = 13) <|
  rhck (Γ.2.2.1 (M.2.2 v0 11) = 15) <|
  rhck (0 ≤ (M.1 v0 35).toInt ∧ (M.1 v0 35).toInt < (Γ.2.2.2 (M.2.2 v0 11) : Nat)) <|
  (f_X12_here Γ M v0 (M.2.2 v0 27) (5 * (M.1 v0 35)) (M.1 (M.2.2 v0 11) (M.1 v0 35).toNatClampNeg)).bind fun r4 =>
  some r4
set_option maxHeartbeats 4000000 in
set_option maxRecDepth 100000 in
theorem b_X12_railHere {E : rhE} {Γ : rhG} {M : rhM} : ∀ (v0 : Nat), rhF E 5 1 yX12_railHere cX12_railHere (some .int) Γ (rhe0I Γ M) (f_X12_railHere Γ M v0) 0 [(0, rhR v0)] [] Γ M := by
  intro v0
  rw [f_X12_railHere]
  refine rhF.aload_n (pc := 0) dX12_railHere_0 0 rfl ?_
  refine rhF.aload_n (pc := 1) dX12_railHere_1 0 rfl ?_
  refine rhF.ck (fun h1 => ?_)
  refine rhF.get (pc := 2) (rhR _) dX12_railHere_2 fl_X12_70 h1 rfl ?_
  refine rhF.iconst (pc := 5) (v := 5) dX12_railHere_5 (by decide) ?_
  refine rhF.aload_n (pc := 6) dX12_railHere_6 0 rfl ?_
  refine rhF.get (pc := 7) (rhI _) dX12_railHere_7 fl_X12_318 h1 rfl ?_
  refine rhF.imul (pc := 10) dX12_railHere_10 ?_
  refine rhF.aload_n (pc := 11) dX12_railHere_11 0 rfl ?_
  refine rhF.get (pc := 12) (rhR _) dX12_railHere_12 fl_X12_20 h1 rfl ?_
  refine rhF.aload_n (pc := 15) dX12_railHere_15 0 rfl ?_
  refine rhF.get (pc := 16) (rhI _) dX12_railHere_16 fl_X12_318 h1 rfl ?_
  refine rhF.ck (fun h2 => ?_)
  refine rhF.ck (fun h3 => ?_)
  refine rhF.iald (pc := 19) dX12_railHere_19 h2 h3 ?_
  refine rhF.callV (pc := 20) (ci := 12) (embc := rhe0I _ _) [rhR _, rhI _, rhI _] dX12_railHere_20 ml_X12_360 mv_X12_here ⟨_, rfl, rfl⟩ h1 (c_X12_here _ _ _ _ _ _ _) (by decide) (by decide) rfl (Nat.le_of_ble_eq_true rfl) (fun r4 _ => ?_)
  exact rhF.zret (pc := 23) dX12_railHere_23 rfl rfl rfl
theorem c_X12_railHere (E : rhE) (Γ : rhG) (M : rhM) (v0 : Nat) : ∀ a, f_X12_railHere Γ M v0 = some a → rhC E 5 yX12_railHere cX12_railHere 1 (some .int) [rhR v0] Γ M ((rhe0I Γ M) a) := rhF.met (by decide +kernel) (Nat.le_of_ble_eq_true rfl) (b_X12_railHere v0)
