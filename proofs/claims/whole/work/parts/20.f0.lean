def f_J6_bitCount_0f7a4 (Γ : rhG) (M : rhM) (v0 : Int32) : Option (Int32) :=
  let x1 := v0 - ((rhus v0 1) &&& 1431655765)
  let x2 := (x1 &&& 858993459) + ((rhus x1 2) &&& 858993459)
  let x3 := (x2 + (rhus x2 4)) &&& 252645135
  let x4 := x3 + (rhus x3 8)
  let x5 := x4 + (rhus x4 16)
  some (x5 &&& 63)
set_option maxHeartbeats 4000000 in
set_option maxRecDepth 100000 in
theorem b_J6_bitCount_0f7a4 {E : rhE} {Γ : rhG} {M : rhM} : ∀ (v0 : Int32), rhF E 1 1 yJ6_bitCount_0f7a4 cJ6_bitCount_0f7a4 (some .int) Γ (rhe0I Γ M) (f_J6_bitCount_0f7a4 Γ M v0) 0 [(0, rhI v0)] [] Γ M := by
  intro v0
  rw [f_J6_bitCount_0f7a4]
  refine rhF.iload_n (pc := 0) dJ6_bitCount_0f7a4_0 0 rfl ?_
  refine rhF.iload_n (pc := 1) dJ6_bitCount_0f7a4_1 0 rfl ?_
  refine rhF.iconst (pc := 2) (v := 1) dJ6_bitCount_0f7a4_2 (by decide) ?_
  refine rhF.iushr (pc := 3) dJ6_bitCount_0f7a4_3 ?_
  refine rhF.ldcw (pc := 4) dJ6_bitCount_0f7a4_4 k_J6_265 ?_
  refine rhF.iand (pc := 7) dJ6_bitCount_0f7a4_7 ?_
  refine rhF.isub (pc := 8) dJ6_bitCount_0f7a4_8 ?_
  refine rhF.istore_n (pc := 9) (L' := [(0, rhI _)]) dJ6_bitCount_0f7a4_9 (by decide) rfl ?_
  refine rhF.iload_n (pc := 10) dJ6_bitCount_0f7a4_10 0 rfl ?_
  refine rhF.ldcw (pc := 11) dJ6_bitCount_0f7a4_11 k_J6_266 ?_
  refine rhF.iand (pc := 14) dJ6_bitCount_0f7a4_14 ?_
  refine rhF.iload_n (pc := 15) dJ6_bitCount_0f7a4_15 0 rfl ?_
  refine rhF.iconst (pc := 16) (v := 2) dJ6_bitCount_0f7a4_16 (by decide) ?_
  refine rhF.iushr (pc := 17) dJ6_bitCount_0f7a4_17 ?_
  refine rhF.ldcw (pc := 18) dJ6_bitCount_0f7a4_18 k_J6_266 ?_
  refine rhF.iand (pc := 21) dJ6_bitCount_0f7a4_21 ?_
  refine rhF.iadd (pc := 22) dJ6_bitCount_0f7a4_22 ?_
  refine rhF.istore_n (pc := 23) (L' := [(0, rhI _)]) dJ6_bitCount_0f7a4_23 (by decide) rfl ?_
  refine rhF.iload_n (pc := 24) dJ6_bitCount_0f7a4_24 0 rfl ?_
  refine rhF.iload_n (pc := 25) dJ6_bitCount_0f7a4_25 0 rfl ?_
  refine rhF.iconst (pc := 26) (v := 4) dJ6_bitCount_0f7a4_26 (by decide) ?_
  refine rhF.iushr (pc := 27) dJ6_bitCount_0f7a4_27 ?_
  refine rhF.iadd (pc := 28) dJ6_bitCount_0f7a4_28 ?_
  refine rhF.ldcw (pc := 29) dJ6_bitCount_0f7a4_29 k_J6_267 ?_
  refine rhF.iand (pc := 32) dJ6_bitCount_0f7a4_32 ?_
  refine rhF.istore_n (pc := 33) (L' := [(0, rhI _)]) dJ6_bitCount_0f7a4_33 (by decide) rfl ?_
  refine rhF.iload_n (pc := 34) dJ6_bitCount_0f7a4_34 0 rfl ?_
  refine rhF.iload_n (pc := 35) dJ6_bitCount_0f7a4_35 0 rfl ?_
  refine rhF.bipush (pc := 36) (v := 8) dJ6_bitCount_0f7a4_36 (by decide) ?_
  refine rhF.iushr (pc := 38) dJ6_bitCount_0f7a4_38 ?_
  refine rhF.iadd (pc := 39) dJ6_bitCount_0f7a4_39 ?_
  refine rhF.istore_n (pc := 40) (L' := [(0, rhI _)]) dJ6_bitCount_0f7a4_40 (by decide) rfl ?_
  refine rhF.iload_n (pc := 41) dJ6_bitCount_0f7a4_41 0 rfl ?_
  refine rhF.iload_n (pc := 42) dJ6_bitCount_0f7a4_42 0 rfl ?_
  refine rhF.bipush (pc := 43) (v := 16) dJ6_bitCount_0f7a4_43 (by decide) ?_
  refine rhF.iushr (pc := 45) dJ6_bitCount_0f7a4_45 ?_
  refine rhF.iadd (pc := 46) dJ6_bitCount_0f7a4_46 ?_
  refine rhF.istore_n (pc := 47) (L' := [(0, rhI _)]) dJ6_bitCount_0f7a4_47 (by decide) rfl ?_
  refine rhF.iload_n (pc := 48) dJ6_bitCount_0f7a4_48 0 rfl ?_
  refine rhF.bipush (pc := 49) (v := 63) dJ6_bitCount_0f7a4_49 (by decide) ?_
  refine rhF.iand (pc := 51) dJ6_bitCount_0f7a4_51 ?_
  exact rhF.zret (pc := 52) dJ6_bitCount_0f7a4_52 rfl rfl rfl
theorem c_J6_bitCount_0f7a4 (E : rhE) (Γ : rhG) (M : rhM) (v0 : Int32) : ∀ a, f_J6_bitCount_0f7a4 Γ M v0 = some a → rhC E 1 yJ6_bitCount_0f7a4 cJ6_bitCount_0f7a4 1 (some .int) [rhI v0] Γ M ((rhe0I Γ M) a) := rhF.met (by decide +kernel) (Nat.le_of_ble_eq_true rfl) (b_J6_bitCount_0f7a4 v0)
def f_J7_fill_53178_5 (Γ : rhG) : Nat → rhM → Nat → Int32 → Int32 → Int32 → Option (rhM)
  | 0, _, _, _, _, _ => none
  | n + 1, M, v0, v1, v2, v3 =>
    if v2 < v3 then
      (rhck (Γ.2.2.1 v0 = 15) <|
      rhck (0 ≤ (v2).toInt ∧ (v2).toInt < (Γ.2.2.2 v0 : Nat)) <|
      let M6 := rhsi M v0 (v2 : Int32).toNatClampNeg v1
      let x7 : Int32 := v2 + 1
      f_J7_fill_53178_5 Γ n M6 v0 v1 x7 v3)
    else
      some M
def f_J7_fill_53178 (Γ : rhG) (M : rhM) (v0 : Nat) (v1 : Int32) : Option (rhM) :=
  rhck (Γ.2.2.1 v0 = 15) <|
  let x2 := Int32.ofNat (Γ.2.2.2 v0)
  f_J7_fill_53178_5 Γ rhFU M v0 v1 0 x2
set_option maxHeartbeats 4000000 in
set_option maxRecDepth 100000 in
theorem b_J7_fill_53178_5 {E : rhE} {Γ : rhG} : ∀ (n : Nat) (M : rhM) (v0 : Nat) (v1 : Int32) (v2 : Int32) (v3 : Int32), rhF E 1 4 yJ7_fill_53178 cJ7_fill_53178 none Γ (rhe1U Γ) (f_J7_fill_53178_5 Γ n M v0 v1 v2 v3) 5 [(0, rhR v0), (1, rhI v1), (2, rhI v2), (3, rhI v3)] [] Γ M := by
  intro n
  induction n with
  | zero => intro M v0 v1 v2 v3; rw [f_J7_fill_53178_5]; exact rhF.nope
  | succ n ih =>
    intro M v0 v1 v2 v3
    rw [f_J7_fill_53178_5]
    refine rhF.iload_n (pc := 5) dJ7_fill_53178_5 2 rfl ?_
    refine rhF.iload_n (pc := 6) dJ7_fill_53178_6 3 rfl ?_
    refine rhF.icmp_ge (pc := 7) 20 dJ7_fill_53178_7 (by decide) (fun h3 => ?_) (fun h3 => ?_)
    · refine rhF.aload_n (pc := 10) dJ7_fill_53178_10 0 rfl ?_
      refine rhF.iload_n (pc := 11) dJ7_fill_53178_11 2 rfl ?_
      refine rhF.iload_n (pc := 12) dJ7_fill_53178_12 1 rfl ?_
      refine rhF.ck (fun h4 => ?_)
      refine rhF.ck (fun h5 => ?_)
      refine rhF.iast (pc := 13) dJ7_fill_53178_13 h4 h5 ?_
      refine rhF.iinc (pc := 14) (L' := [(2, rhI _), (0, rhR _), (1, rhI _), (3, rhI _)]) dJ7_fill_53178_14 2 rfl rfl (by decide) rfl ?_
      refine rhF.goto (pc := 17) 5 dJ7_fill_53178_17 (by decide) ?_
      refine rhF.sub [1, 2, 0, 3] rfl ?_
      exact ih _ _ _ _ _
    · exact rhF.vret (pc := 20) dJ7_fill_53178_20 rfl rfl
set_option maxHeartbeats 4000000 in
set_option maxRecDepth 100000 in
theorem b_J7_fill_53178 {E : rhE} {Γ : rhG} : ∀ (M : rhM) (v0 : Nat) (v1 : Int32), rhF E 1 4 yJ7_fill_53178 cJ7_fill_53178 none Γ (rhe1U Γ) (f_J7_fill_53178 Γ M v0 v1) 0 [(0, rhR v0), (1, rhI v1)] [] Γ M := by
  intro M v0 v1
  rw [f_J7_fill_53178]
  refine rhF.iconst (pc := 0) (v := 0) dJ7_fill_53178_0 (by decide) ?_
  refine rhF.istore_n (pc := 1) (L' := [(2, rhI _), (0, rhR _), (1, rhI _)]) dJ7_fill_53178_1 (by decide) rfl ?_
  refine rhF.aload_n (pc := 2) dJ7_fill_53178_2 1 rfl ?_
  refine rhF.ck (fun h1 => ?_)
  refine rhF.alen15 (pc := 3) dJ7_fill_53178_3 h1 ?_
  refine rhF.istore_n (pc := 4) (L' := [(3, rhI _), (2, rhI _), (0, rhR _), (1, rhI _)]) dJ7_fill_53178_4 (by decide) rfl ?_
  refine rhF.sub [2, 3, 1, 0] rfl ?_
  exact (b_J7_fill_53178_5 rhFU) _ _ _ _ _
theorem c_J7_fill_53178 (E : rhE) (Γ : rhG) (M : rhM) (v0 : Nat) (v1 : Int32) : ∀ a, f_J7_fill_53178 Γ M v0 v1 = some a → rhC E 1 yJ7_fill_53178 cJ7_fill_53178 4 none [rhR v0, rhI v1] Γ M ((rhe1U Γ) a) := rhF.met (by decide +kernel) (Nat.le_of_ble_eq_true rfl) (b_J7_fill_53178 M v0 v1)
def f_J7_rangeCheck_23922 (Γ : rhG) (M : rhM) (v0 : Int32) (v1 : Int32) (v2 : Int32) : Option (Unit) :=
  if v2 < v1 then
    (none)
  else
    if v1 < 0 then
      (none)
    else
      if v0 < v2 then
        (none)
      else
        some ()
set_option maxHeartbeats 4000000 in
set_option maxRecDepth 100000 in
theorem b_J7_rangeCheck_23922 {E : rhE} {Γ : rhG} {M : rhM} : ∀ (v0 : Int32) (v1 : Int32) (v2 : Int32), rhF E 5 3 yJ7_rangeCheck_23922 cJ7_rangeCheck_23922 none Γ (rhe0U Γ M) (f_J7_rangeCheck_23922 Γ M v0 v1 v2) 0 [(0, rhI v0), (1, rhI v1), (2, rhI v2)] [] Γ M := by
  intro v0 v1 v2
  rw [f_J7_rangeCheck_23922]
  refine rhF.iload_n (pc := 0) dJ7_rangeCheck_23922_0 1 rfl ?_
  refine rhF.iload_n (pc := 1) dJ7_rangeCheck_23922_1 2 rfl ?_
  refine rhF.icmp_le (pc := 2) 46 dJ7_rangeCheck_23922_2 (by decide) (fun h1 => ?_) (fun h1 => ?_)
  · exact rhF.nope
  · refine rhF.iload_n (pc := 46) dJ7_rangeCheck_23922_46 1 rfl ?_
    refine rhF.if_ge (pc := 47) 59 dJ7_rangeCheck_23922_47 (by decide) (fun h2 => ?_) (fun h2 => ?_)
    · exact rhF.nope
    · refine rhF.iload_n (pc := 59) dJ7_rangeCheck_23922_59 2 rfl ?_
      refine rhF.iload_n (pc := 60) dJ7_rangeCheck_23922_60 0 rfl ?_
      refine rhF.icmp_le (pc := 61) 73 dJ7_rangeCheck_23922_61 (by decide) (fun h3 => ?_) (fun h3 => ?_)
      · exact rhF.nope
      · exact rhF.vret (pc := 73) dJ7_rangeCheck_23922_73 rfl rfl
theorem c_J7_rangeCheck_23922 (E : rhE) (Γ : rhG) (M : rhM) (v0 : Int32) (v1 : Int32) (v2 : Int32) : ∀ a, f_J7_rangeCheck_23922 Γ M v0 v1 v2 = some a → rhC E 5 yJ7_rangeCheck_23922 cJ7_rangeCheck_23922 3 none [rhI v0, rhI v1, rhI v2] Γ M ((rhe0U Γ M) a) := rhF.met (by decide +kernel) (Nat.le_of_ble_eq_true rfl) (b_J7_rangeCheck_23922 v0 v1 v2)
def f_J7_fill_bad5a_10 (Γ : rhG) : Nat → rhM → Nat → Int32 → Int64 → Int32 → Option (rhM)
  | 0, _, _, _, _, _ => none
  | n + 1, M, v0, v2, v3, v5 =>
    if v5 < v2 then
      (rhck (Γ.2.2.1 v0 = 16) <|
      rhck (0 ≤ (v5).toInt ∧ (v5).toInt < (Γ.2.2.2 v0 : Nat)) <|
      let M6 := rhsl M v0 (v5 : Int32).toNatClampNeg v3
      let x7 : Int32 := v5 + 1
      f_J7_fill_bad5a_10 Γ n M6 v0 v2 v3 x7)
    else
      some M
def f_J7_fill_bad5a (Γ : rhG) (M : rhM) (v0 : Nat) (v1 : Int32) (v2 : Int32) (v3 : Int64) : Option (rhM) :=
  rhck (Γ.2.2.1 v0 = 16) <|
  (f_J7_rangeCheck_23922 Γ M (Int32.ofNat (Γ.2.2.2 v0)) v1 v2).bind fun r2 =>
  f_J7_fill_bad5a_10 Γ rhFU M v0 v2 v3 v1
set_option maxHeartbeats 4000000 in
set_option maxRecDepth 100000 in
theorem b_J7_fill_bad5a_10 {E : rhE} {Γ : rhG} : ∀ (n : Nat) (M : rhM) (v0 : Nat) (v2 : Int32) (v3 : Int64) (v5 : Int32), rhF E 6 6 yJ7_fill_bad5a cJ7_fill_bad5a none Γ (rhe1U Γ) (f_J7_fill_bad5a_10 Γ n M v0 v2 v3 v5) 10 [(0, rhR v0), (2, rhI v2), (3, rhJ v3), (5, rhI v5)] [] Γ M := by
  intro n
  induction n with
  | zero => intro M v0 v2 v3 v5; rw [f_J7_fill_bad5a_10]; exact rhF.nope
  | succ n ih =>
    intro M v0 v2 v3 v5
    rw [f_J7_fill_bad5a_10]
    refine rhF.iload (pc := 10) dJ7_fill_bad5a_10 3 rfl ?_
    refine rhF.iload_n (pc := 12) dJ7_fill_bad5a_12 1 rfl ?_
    refine rhF.icmp_ge (pc := 13) 27 dJ7_fill_bad5a_13 (by decide) (fun h3 => ?_) (fun h3 => ?_)
    · refine rhF.aload_n (pc := 16) dJ7_fill_bad5a_16 0 rfl ?_
      refine rhF.iload (pc := 17) dJ7_fill_bad5a_17 3 rfl ?_
      refine rhF.lload_n (pc := 19) dJ7_fill_bad5a_19 2 rfl ?_
      refine rhF.ck (fun h4 => ?_)
      refine rhF.ck (fun h5 => ?_)
      refine rhF.last (pc := 20) dJ7_fill_bad5a_20 h4 h5 ?_
      refine rhF.iinc (pc := 21) (L' := [(5, rhI _), (0, rhR _), (2, rhI _), (3, rhJ _)]) dJ7_fill_bad5a_21 3 rfl rfl (by decide) rfl ?_
      refine rhF.goto (pc := 24) 10 dJ7_fill_bad5a_24 (by decide) ?_
      refine rhF.sub [1, 2, 3, 0] rfl ?_
      exact ih _ _ _ _ _
    · exact rhF.vret (pc := 27) dJ7_fill_bad5a_27 rfl rfl
set_option maxHeartbeats 4000000 in
set_option maxRecDepth 100000 in
theorem b_J7_fill_bad5a {E : rhE} {Γ : rhG} : ∀ (M : rhM) (v0 : Nat) (v1 : Int32) (v2 : Int32) (v3 : Int64), rhF E 6 6 yJ7_fill_bad5a cJ7_fill_bad5a none Γ (rhe1U Γ) (f_J7_fill_bad5a Γ M v0 v1 v2 v3) 0 [(0, rhR v0), (1, rhI v1), (2, rhI v2), (3, rhJ v3)] [] Γ M := by
  intro M v0 v1 v2 v3
  rw [f_J7_fill_bad5a]
  refine rhF.aload_n (pc := 0) dJ7_fill_bad5a_0 0 rfl ?_
  refine rhF.ck (fun h1 => ?_)
  refine rhF.alen16 (pc := 1) dJ7_fill_bad5a_1 h1 ?_
  refine rhF.iload_n (pc := 2) dJ7_fill_bad5a_2 1 rfl ?_
  refine rhF.iload_n (pc := 3) dJ7_fill_bad5a_3 2 rfl ?_
  refine rhF.callS (pc := 4) (embc := rhe0U _ _) [rhI _, rhI _, rhI _] dJ7_fill_bad5a_4 ml_J7_13 ms_J7_rangeCheck_23922 (c_J7_rangeCheck_23922 _ _ _ _ _ _) (by decide) (by decide) rfl (Nat.le_of_ble_eq_true rfl) (fun r2 _ => ?_)
  refine rhF.iload_n (pc := 7) dJ7_fill_bad5a_7 1 rfl ?_
  refine rhF.istore (pc := 8) (L' := [(5, rhI _), (0, rhR _), (1, rhI _), (2, rhI _), (3, rhJ _)]) dJ7_fill_bad5a_8 (by decide) rfl ?_
  refine rhF.sub [1, 3, 4, 0] rfl ?_
  exact (b_J7_fill_bad5a_10 rhFU) _ _ _ _ _
theorem c_J7_fill_bad5a (E : rhE) (Γ : rhG) (M : rhM) (v0 : Nat) (v1 : Int32) (v2 : Int32) (v3 : Int64) : ∀ a, f_J7_fill_bad5a Γ M v0 v1 v2 v3 = some a → rhC E 6 yJ7_fill_bad5a cJ7_fill_bad5a 6 none [rhR v0, rhI v1, rhI v2, rhJ v3] Γ M ((rhe1U Γ) a) := rhF.met (by decide +kernel) (Nat.le_of_ble_eq_true rfl) (b_J7_fill_bad5a M v0 v1 v2 v3)
def f_J7_fill_fda19_10 (Γ : rhG) : Nat → rhM → Nat → Int32 → Int32 → Int32 → Option (rhM)
  | 0, _, _, _, _, _ => none
  | n + 1, M, v0, v2, v3, v4 =>
    if v4 < v2 then
      (rhck (Γ.2.2.1 v0 = 15) <|
      rhck (0 ≤ (v4).toInt ∧ (v4).toInt < (Γ.2.2.2 v0 : Nat)) <|
      let M6 := rhsi M v0 (v4 : Int32).toNatClampNeg v3
      let x7 : Int32 := v4 + 1
      f_J7_fill_fda19_10 Γ n M6 v0 v2 v3 x7)
    else
      some M
def f_J7_fill_fda19 (Γ : rhG) (M : rhM) (v0 : Nat) (v1 : Int32) (v2 : Int32) (v3 : Int32) : Option (rhM) :=
  rhck (Γ.2.2.1 v0 = 15) <|
  (f_J7_rangeCheck_23922 Γ M (Int32.ofNat (Γ.2.2.2 v0)) v1 v2).bind fun r2 =>
  f_J7_fill_fda19_10 Γ rhFU M v0 v2 v3 v1
set_option maxHeartbeats 4000000 in
set_option maxRecDepth 100000 in
theorem b_J7_fill_fda19_10 {E : rhE} {Γ : rhG} : ∀ (n : Nat) (M : rhM) (v0 : Nat) (v2 : Int32) (v3 : Int32) (v4 : Int32), rhF E 6 5 yJ7_fill_fda19 cJ7_fill_fda19 none Γ (rhe1U Γ) (f_J7_fill_fda19_10 Γ n M v0 v2 v3 v4) 10 [(0, rhR v0), (2, rhI v2), (3, rhI v3), (4, rhI v4)] [] Γ M := by
  intro n
  induction n with
  | zero => intro M v0 v2 v3 v4; rw [f_J7_fill_fda19_10]; exact rhF.nope
  | succ n ih =>
    intro M v0 v2 v3 v4
    rw [f_J7_fill_fda19_10]
    refine rhF.iload (pc := 10) dJ7_fill_fda19_10 3 rfl ?_
    refine rhF.iload_n (pc := 12) dJ7_fill_fda19_12 1 rfl ?_
    refine rhF.icmp_ge (pc := 13) 27 dJ7_fill_fda19_13 (by decide) (fun h3 => ?_) (fun h3 => ?_)
    · refine rhF.aload_n (pc := 16) dJ7_fill_fda19_16 0 rfl ?_
      refine rhF.iload (pc := 17) dJ7_fill_fda19_17 3 rfl ?_
      refine rhF.iload_n (pc := 19) dJ7_fill_fda19_19 2 rfl ?_
      refine rhF.ck (fun h4 => ?_)
      refine rhF.ck (fun h5 => ?_)
      refine rhF.iast (pc := 20) dJ7_fill_fda19_20 h4 h5 ?_
      refine rhF.iinc (pc := 21) (L' := [(4, rhI _), (0, rhR _), (2, rhI _), (3, rhI _)]) dJ7_fill_fda19_21 3 rfl rfl (by decide) rfl ?_
      refine rhF.goto (pc := 24) 10 dJ7_fill_fda19_24 (by decide) ?_
      refine rhF.sub [1, 2, 3, 0] rfl ?_
      exact ih _ _ _ _ _
    · exact rhF.vret (pc := 27) dJ7_fill_fda19_27 rfl rfl
set_option maxHeartbeats 4000000 in
set_option maxRecDepth 100000 in
theorem b_J7_fill_fda19 {E : rhE} {Γ : rhG} : ∀ (M : rhM) (v0 : Nat) (v1 : Int32) (v2 : Int32) (v3 : Int32), rhF E 6 5 yJ7_fill_fda19 cJ7_fill_fda19 none Γ (rhe1U Γ) (f_J7_fill_fda19 Γ M v0 v1 v2 v3) 0 [(0, rhR v0), (1, rhI v1), (2, rhI v2), (3, rhI v3)] [] Γ M := by
  intro M v0 v1 v2 v3
  rw [f_J7_fill_fda19]
  refine rhF.aload_n (pc := 0) dJ7_fill_fda19_0 0 rfl ?_
  refine rhF.ck (fun h1 => ?_)
  refine rhF.alen15 (pc := 1) dJ7_fill_fda19_1 h1 ?_
  refine rhF.iload_n (pc := 2) dJ7_fill_fda19_2 1 rfl ?_
  refine rhF.iload_n (pc := 3) dJ7_fill_fda19_3 2 rfl ?_
  refine rhF.callS (pc := 4) (embc := rhe0U _ _) [rhI _, rhI _, rhI _] dJ7_fill_fda19_4 ml_J7_13 ms_J7_rangeCheck_23922 (c_J7_rangeCheck_23922 _ _ _ _ _ _) (by decide) (by decide) rfl (Nat.le_of_ble_eq_true rfl) (fun r2 _ => ?_)
  refine rhF.iload_n (pc := 7) dJ7_fill_fda19_7 1 rfl ?_
  refine rhF.istore (pc := 8) (L' := [(4, rhI _), (0, rhR _), (1, rhI _), (2, rhI _), (3, rhI _)]) dJ7_fill_fda19_8 (by decide) rfl ?_
  refine rhF.sub [1, 3, 4, 0] rfl ?_
  exact (b_J7_fill_fda19_10 rhFU) _ _ _ _ _
theorem c_J7_fill_fda19 (E : rhE) (Γ : rhG) (M : rhM) (v0 : Nat) (v1 : Int32) (v2 : Int32) (v3 : Int32) : ∀ a, f_J7_fill_fda19 Γ M v0 v1 v2 v3 = some a → rhC E 6 yJ7_fill_fda19 cJ7_fill_fda19 5 none [rhR v0, rhI v1, rhI v2, rhI v3] Γ M ((rhe1U Γ) a) := rhF.met (by decide +kernel) (Nat.le_of_ble_eq_true rfl) (b_J7_fill_fda19 M v0 v1 v2 v3)
def f_X0_ahead (Γ : rhG) (M : rhM) (v0 : Nat) (v1 : Int32) : Option (Int32) :=
  rhck (Γ.2.2.1 v0 = 1) <|
  rhck (Γ.2.2.1 (M.2.2 v0 4) = 15) <|
  rhck (0 ≤ (v1).toInt ∧ (v1).toInt < (Γ.2.2.2 (M.2.2 v0 4) : Nat)) <|
  some ((M.1 (M.2.2 v0 4) v1.toNatClampNeg) &&& 65535)
set_option maxHeartbeats 4000000 in
set_option maxRecDepth 100000 in
theorem b_X0_ahead {E : rhE} {Γ : rhG} {M : rhM} : ∀ (v0 : Nat) (v1 : Int32), rhF E 1 2 yX0_ahead cX0_ahead (some .int) Γ (rhe0I Γ M) (f_X0_ahead Γ M v0 v1) 0 [(0, rhR v0), (1, rhI v1)] [] Γ M := by
  intro v0 v1
  rw [f_X0_ahead]
  refine rhF.aload_n (pc := 0) dX0_ahead_0 0 rfl ?_
  refine rhF.ck (fun h1 => ?_)
  refine rhF.get (pc := 1) (rhR _) dX0_ahead_1 fl_X0_35 h1 rfl ?_
  refine rhF.iload_n (pc := 4) dX0_ahead_4 1 rfl ?_
  refine rhF.ck (fun h2 => ?_)
  refine rhF.ck (fun h3 => ?_)
  refine rhF.iald (pc := 5) dX0_ahead_5 h2 h3 ?_
  refine rhF.ldc (pc := 6) dX0_ahead_6 k_X0_52 ?_
  refine rhF.iand (pc := 8) dX0_ahead_8 ?_
  exact rhF.zret (pc := 9) dX0_ahead_9 rfl rfl rfl
theorem c_X0_ahead (E : rhE) (Γ : rhG) (M : rhM) (v0 : Nat) (v1 : Int32) : ∀ a, f_X0_ahead Γ M v0 v1 = some a → rhC E 1 yX0_ahead cX0_ahead 2 (some .int) [rhR v0, rhI v1] Γ M ((rhe0I Γ M) a) := rhF.met (by decide +kernel) (Nat.le_of_ble_eq_true rfl) (b_X0_ahead v0 v1)
def f_X0_begin (Γ : rhG) (M : rhM) (v0 : Nat) (v1 : Int32) : Option (rhM) :=
  rhck (Γ.2.2.1 v0 = 1) <|
  let M2 := rhsi M v0 1 0
  let x3 : Int32 := if (M2.1 v0 0) < v1 then M2.1 v0 0 else v1
  (f_J7_fill_bad5a Γ M2 (M.2.2 v0 2) (0 : Int32) x3 ((-1 : Int64))).bind fun r4 =>
  (f_J7_fill_53178 Γ r4 (r4.2.2 v0 5) (65535 : Int32)).bind fun r5 =>
  (f_J7_fill_53178 Γ r5 (r5.2.2 v0 6) (65535 : Int32)).bind fun r6 =>
  some r6
set_option maxHeartbeats 4000000 in
set_option maxRecDepth 100000 in
theorem b_X0_begin {E : rhE} {Γ : rhG} : ∀ (M : rhM) (v0 : Nat) (v1 : Int32), rhF E 7 2 yX0_begin cX0_begin none Γ (rhe1U Γ) (f_X0_begin Γ M v0 v1) 0 [(0, rhR v0), (1, rhI v1)] [] Γ M := by
  intro M v0 v1
  rw [f_X0_begin]
  refine rhF.aload_n (pc := 0) dX0_begin_0 0 rfl ?_
  refine rhF.iconst (pc := 1) (v := 0) dX0_begin_1 (by decide) ?_
  refine rhF.ck (fun h1 => ?_)
  refine rhF.puti (pc := 2) dX0_begin_2 fl_X0_38 h1 (fun q hq => by cases hq; exact Or.inl rfl) ⟨rfl, rfl⟩ (fun _ => rfl) ?_
  refine rhF.aload_n (pc := 5) dX0_begin_5 0 rfl ?_
  refine rhF.get (pc := 6) (rhR _) dX0_begin_6 fl_X0_28 h1 rfl ?_
  refine rhF.iconst (pc := 9) (v := 0) dX0_begin_9 (by decide) ?_
  refine rhF.iload_n (pc := 10) dX0_begin_10 1 rfl ?_
  refine rhF.aload_n (pc := 11) dX0_begin_11 0 rfl ?_
  refine rhF.get (pc := 12) (rhI _) dX0_begin_12 fl_X0_24 h1 rfl ?_
  refine rhF.mmin (pc := 15) dX0_begin_15 mm_X0_41 (by decide) (Nat.le_of_ble_eq_true rfl) ?_
  refine rhF.ldc2 (pc := 18) dX0_begin_18 k_X0_44 ?_
  refine rhF.callS (pc := 21) (embc := rhe1U _) [rhR _, rhI _, rhI _, rhJ _] dX0_begin_21 ml_X0_46 ms_J7_fill_bad5a (c_J7_fill_bad5a _ _ _ _ _ _ _) (by decide) (by decide) rfl (Nat.le_of_ble_eq_true rfl) (fun r4 _ => ?_)
  refine rhF.aload_n (pc := 24) dX0_begin_24 0 rfl ?_
  refine rhF.get (pc := 25) (rhR _) dX0_begin_25 fl_X0_11 h1 rfl ?_
  refine rhF.ldc (pc := 28) dX0_begin_28 k_X0_52 ?_
  refine rhF.callS (pc := 30) (embc := rhe1U _) [rhR _, rhI _] dX0_begin_30 ml_X0_53 ms_J7_fill_53178 (c_J7_fill_53178 _ _ _ _ _) (by decide) (by decide) rfl (Nat.le_of_ble_eq_true rfl) (fun r5 _ => ?_)
  refine rhF.aload_n (pc := 33) dX0_begin_33 0 rfl ?_
  refine rhF.get (pc := 34) (rhR _) dX0_begin_34 fl_X0_15 h1 rfl ?_
  refine rhF.ldc (pc := 37) dX0_begin_37 k_X0_52 ?_
  refine rhF.callS (pc := 39) (embc := rhe1U _) [rhR _, rhI _] dX0_begin_39 ml_X0_53 ms_J7_fill_53178 (c_J7_fill_53178 _ _ _ _ _) (by decide) (by decide) rfl (Nat.le_of_ble_eq_true rfl) (fun r6 _ => ?_)
  exact rhF.vret (pc := 42) dX0_begin_42 rfl rfl
theorem c_X0_begin (E : rhE) (Γ : rhG) (M : rhM) (v0 : Nat) (v1 : Int32) : ∀ a, f_X0_begin Γ M v0 v1 = some a → rhC E 7 yX0_begin cX0_begin 2 none [rhR v0, rhI v1] Γ M ((rhe1U Γ) a) := rhF.met (by decide +kernel) (Nat.le_of_ble_eq_true rfl) (b_X0_begin M v0 v1)
def f_X0_behind (Γ : rhG) (M : rhM) (v0 : Nat) (v1 : Int32) : Option (Int32) :=
  rhck (Γ.2.2.1 v0 = 1) <|
  rhck (Γ.2.2.1 (M.2.2 v0 4) = 15) <|
  rhck (0 ≤ (v1).toInt ∧ (v1).toInt < (Γ.2.2.2 (M.2.2 v0 4) : Nat)) <|
  some (rhus (M.1 (M.2.2 v0 4) v1.toNatClampNeg) 16)
set_option maxHeartbeats 4000000 in
set_option maxRecDepth 100000 in
theorem b_X0_behind {E : rhE} {Γ : rhG} {M : rhM} : ∀ (v0 : Nat) (v1 : Int32), rhF E 1 2 yX0_behind cX0_behind (some .int) Γ (rhe0I Γ M) (f_X0_behind Γ M v0 v1) 0 [(0, rhR v0), (1, rhI v1)] [] Γ M := by
  intro v0 v1
  rw [f_X0_behind]
  refine rhF.aload_n (pc := 0) dX0_behind_0 0 rfl ?_
  refine rhF.ck (fun h1 => ?_)
  refine rhF.get (pc := 1) (rhR _) dX0_behind_1 fl_X0_35 h1 rfl ?_
  refine rhF.iload_n (pc := 4) dX0_behind_4 1 rfl ?_
  refine rhF.ck (fun h2 => ?_)
  refine rhF.ck (fun h3 => ?_)
  refine rhF.iald (pc := 5) dX0_behind_5 h2 h3 ?_
  refine rhF.bipush (pc := 6) (v := 16) dX0_behind_6 (by decide) ?_
  refine rhF.iushr (pc := 8) dX0_behind_8 ?_
  exact rhF.zret (pc := 9) dX0_behind_9 rfl rfl rfl
theorem c_X0_behind (E : rhE) (Γ : rhG) (M : rhM) (v0 : Nat) (v1 : Int32) : ∀ a, f_X0_behind Γ M v0 v1 = some a → rhC E 1 yX0_behind cX0_behind 2 (some .int) [rhR v0, rhI v1] Γ M ((rhe0I Γ M) a) := rhF.met (by decide +kernel) (Nat.le_of_ble_eq_true rfl) (b_X0_behind v0 v1)
def f_X0_codeOf (Γ : rhG) (M : rhM) (v0 : Nat) (v1 : Int32) : Option (Int32) :=
  rhck (Γ.2.2.1 v0 = 1) <|
  rhck (Γ.2.2.1 (M.2.2 v0 2) = 16) <|
  rhck (0 ≤ (v1).toInt ∧ (v1).toInt < (Γ.2.2.2 (M.2.2 v0 2) : Nat)) <|
  some ((Int64.toInt32 (M.2.1 (M.2.2 v0 2) v1.toNatClampNeg)) &&& 511)
set_option maxHeartbeats 4000000 in
set_option maxRecDepth 100000 in
theorem b_X0_codeOf {E : rhE} {Γ : rhG} {M : rhM} : ∀ (v0 : Nat) (v1 : Int32), rhF E 1 2 yX0_codeOf cX0_codeOf (some .int) Γ (rhe0I Γ M) (f_X0_codeOf Γ M v0 v1) 0 [(0, rhR v0), (1, rhI v1)] [] Γ M := by
  intro v0 v1
  rw [f_X0_codeOf]
  refine rhF.aload_n (pc := 0) dX0_codeOf_0 0 rfl ?_
  refine rhF.ck (fun h1 => ?_)
  refine rhF.get (pc := 1) (rhR _) dX0_codeOf_1 fl_X0_28 h1 rfl ?_
  refine rhF.iload_n (pc := 4) dX0_codeOf_4 1 rfl ?_
  refine rhF.ck (fun h2 => ?_)
  refine rhF.ck (fun h3 => ?_)
  refine rhF.lald (pc := 5) dX0_codeOf_5 h2 h3 ?_
  refine rhF.l2i (pc := 6) dX0_codeOf_6 ?_
  refine rhF.sipush (pc := 7) (v := 511) dX0_codeOf_7 (by decide) ?_
  refine rhF.iand (pc := 10) dX0_codeOf_10 ?_
  exact rhF.zret (pc := 11) dX0_codeOf_11 rfl rfl rfl
theorem c_X0_codeOf (E : rhE) (Γ : rhG) (M : rhM) (v0 : Nat) (v1 : Int32) : ∀ a, f_X0_codeOf Γ M v0 v1 = some a → rhC E 1 yX0_codeOf cX0_codeOf 2 (some .int) [rhR v0, rhI v1] Γ M ((rhe0I Γ M) a) := rhF.met (by decide +kernel) (Nat.le_of_ble_eq_true rfl) (b_X0_codeOf v0 v1)
def f_X0_parentOf (Γ : rhG) (M : rhM) (v0 : Nat) (v1 : Int32) : Option (Int32) :=
  rhck (Γ.2.2.1 v0 = 1) <|
  rhck (Γ.2.2.1 (M.2.2 v0 2) = 16) <|
  rhck (0 ≤ (v1).toInt ∧ (v1).toInt < (Γ.2.2.2 (M.2.2 v0 2) : Nat)) <|
  some ((Int64.toInt32 (rhul (M.2.1 (M.2.2 v0 2) v1.toNatClampNeg) 9)) &&& 65535)
set_option maxHeartbeats 4000000 in
set_option maxRecDepth 100000 in
theorem b_X0_parentOf {E : rhE} {Γ : rhG} {M : rhM} : ∀ (v0 : Nat) (v1 : Int32), rhF E 1 2 yX0_parentOf cX0_parentOf (some .int) Γ (rhe0I Γ M) (f_X0_parentOf Γ M v0 v1) 0 [(0, rhR v0), (1, rhI v1)] [] Γ M := by
  intro v0 v1
  rw [f_X0_parentOf]
  refine rhF.aload_n (pc := 0) dX0_parentOf_0 0 rfl ?_
  refine rhF.ck (fun h1 => ?_)
  refine rhF.get (pc := 1) (rhR _) dX0_parentOf_1 fl_X0_28 h1 rfl ?_
  refine rhF.iload_n (pc := 4) dX0_parentOf_4 1 rfl ?_
  refine rhF.ck (fun h2 => ?_)
  refine rhF.ck (fun h3 => ?_)
  refine rhF.lald (pc := 5) dX0_parentOf_5 h2 h3 ?_
  refine rhF.bipush (pc := 6) (v := 9) dX0_parentOf_6 (by decide) ?_
  refine rhF.lushr (pc := 8) dX0_parentOf_8 ?_
  refine rhF.l2i (pc := 9) dX0_parentOf_9 ?_
  refine rhF.ldc (pc := 10) dX0_parentOf_10 k_X0_52 ?_
  refine rhF.iand (pc := 12) dX0_parentOf_12 ?_
  exact rhF.zret (pc := 13) dX0_parentOf_13 rfl rfl rfl
theorem c_X0_parentOf (E : rhE) (Γ : rhG) (M : rhM) (v0 : Nat) (v1 : Int32) : ∀ a, f_X0_parentOf Γ M v0 v1 = some a → rhC E 1 yX0_parentOf cX0_parentOf 2 (some .int) [rhR v0, rhI v1] Γ M ((rhe0I Γ M) a) := rhF.met (by decide +kernel) (Nat.le_of_ble_eq_true rfl) (b_X0_parentOf v0 v1)
def f_X0_pullsTo (Γ : rhG) (M : rhM) (v0 : Nat) (v1 : Int32) : Option (Int32) :=
  rhck (Γ.2.2.1 v0 = 1) <|
  rhck (Γ.2.2.1 (M.2.2 v0 2) = 16) <|
  rhck (0 ≤ (v1).toInt ∧ (v1).toInt < (Γ.2.2.2 (M.2.2 v0 2) : Nat)) <|
  some (Int64.toInt32 (rhul (M.2.1 (M.2.2 v0 2) v1.toNatClampNeg) 25))
set_option maxHeartbeats 4000000 in
set_option maxRecDepth 100000 in
theorem b_X0_pullsTo {E : rhE} {Γ : rhG} {M : rhM} : ∀ (v0 : Nat) (v1 : Int32), rhF E 1 2 yX0_pullsTo cX0_pullsTo (some .int) Γ (rhe0I Γ M) (f_X0_pullsTo Γ M v0 v1) 0 [(0, rhR v0), (1, rhI v1)] [] Γ M := by
  intro v0 v1
  rw [f_X0_pullsTo]
  refine rhF.aload_n (pc := 0) dX0_pullsTo_0 0 rfl ?_
  refine rhF.ck (fun h1 => ?_)
  refine rhF.get (pc := 1) (rhR _) dX0_pullsTo_1 fl_X0_28 h1 rfl ?_
  refine rhF.iload_n (pc := 4) dX0_pullsTo_4 1 rfl ?_
  refine rhF.ck (fun h2 => ?_)
  refine rhF.ck (fun h3 => ?_)
  refine rhF.lald (pc := 5) dX0_pullsTo_5 h2 h3 ?_
  refine rhF.bipush (pc := 6) (v := 25) dX0_pullsTo_6 (by decide) ?_
  refine rhF.lushr (pc := 8) dX0_pullsTo_8 ?_
  refine rhF.l2i (pc := 9) dX0_pullsTo_9 ?_
  exact rhF.zret (pc := 10) dX0_pullsTo_10 rfl rfl rfl
theorem c_X0_pullsTo (E : rhE) (Γ : rhG) (M : rhM) (v0 : Nat) (v1 : Int32) : ∀ a, f_X0_pullsTo Γ M v0 v1 = some a → rhC E 1 yX0_pullsTo cX0_pullsTo 2 (some .int) [rhR v0, rhI v1] Γ M ((rhe0I Γ M) a) := rhF.met (by decide +kernel) (Nat.le_of_ble_eq_true rfl) (b_X0_pullsTo v0 v1)
def f_X0_isAhead_79 (k36 : Nat → Int32 → Int32 → Int32 → Int32 → Option (Int32)) (Γ : rhG) (M : rhM) (v0 : Nat) (v1 : Int32) (v2 : Int32) (v4 : Int32) (v5 : Int32) : Option (Int32) :=
  rhck (Γ.2.2.1 v0 = 1) <|
  (f_X0_parentOf Γ M v0 v1).bind fun r13 =>
  (f_X0_parentOf Γ M v0 v2).bind fun r14 =>
  let x15 : Int32 := v5 + (-1)
  k36 v0 r13 r14 v4 x15
def f_X0_isAhead_77 (k79 : Nat → Int32 → Int32 → Int32 → Int32 → Option (Int32)) (Γ : rhG) (M : rhM) (v0 : Nat) (v1 : Int32) (v2 : Int32) (v5 : Int32) (s0 : Int32) : Option (Int32) :=
  k79 v0 v1 v2 s0 v5
def f_X0_isAhead_36 (Γ : rhG) (M : rhM) : Nat → Nat → Int32 → Int32 → Int32 → Int32 → Option (Int32)
  | 0, _, _, _, _, _ => none
  | n + 1, v0, v1, v2, v4, v5 =>
    if 0 < v5 then
      (if v1 = v2 then
        (rhck (v4 = 0 ∨ v4 = 1) <|
        some v4)
      else
        rhck (Γ.2.2.1 v0 = 1) <|
        (f_X0_codeOf Γ M v0 v1).bind fun r9 =>
        (f_X0_codeOf Γ M v0 v2).bind fun r10 =>
        if r9 = r10 then
          (f_X0_isAhead_79 (f_X0_isAhead_36 Γ M n) Γ M v0 v1 v2 v4 v5)
        else
          (f_X0_codeOf Γ M v0 v1).bind fun r16 =>
          (f_X0_codeOf Γ M v0 v2).bind fun r17 =>
          if r16 < r17 then
            (f_X0_isAhead_77 (f_X0_isAhead_79 (f_X0_isAhead_36 Γ M n) Γ M) Γ M v0 v1 v2 v5 1)
          else
            f_X0_isAhead_77 (f_X0_isAhead_79 (f_X0_isAhead_36 Γ M n) Γ M) Γ M v0 v1 v2 v5 0)
    else
      rhck (v4 = 0 ∨ v4 = 1) <|
      some v4
def f_X0_isAhead (Γ : rhG) (M : rhM) (v0 : Nat) (v1 : Int32) (v2 : Int32) : Option (Int32) :=
  rhck (Γ.2.2.1 v0 = 1) <|
  (f_X0_pullsTo Γ M v0 v1).bind fun r2 =>
  (f_X0_pullsTo Γ M v0 v2).bind fun r3 =>
  if r2 = r3 then
    (f_X0_isAhead_36 Γ M rhFU v0 v1 v2 0 r2)
  else
    (f_X0_pullsTo Γ M v0 v2).bind fun r20 =>
    if r2 < r20 then
      (some 1)
    else
      some 0
set_option maxHeartbeats 4000000 in
set_option maxRecDepth 100000 in
theorem b_X0_isAhead_79 {E : rhE} {Γ : rhG} {M : rhM} {k36 : Nat → Int32 → Int32 → Int32 → Int32 → Option (Int32)} (hk36 : ∀ (v0 : Nat) (v1 : Int32) (v2 : Int32) (v4 : Int32) (v5 : Int32), rhF E 5 6 yX0_isAhead cX0_isAhead (some .boolean) Γ (rhe0I Γ M) (k36 v0 v1 v2 v4 v5) 36 [(0, rhR v0), (1, rhI v1), (2, rhI v2), (4, rhI v4), (5, rhI v5)] [] Γ M) : ∀ (v0 : Nat) (v1 : Int32) (v2 : Int32) (v4 : Int32) (v5 : Int32), rhF E 5 6 yX0_isAhead cX0_isAhead (some .boolean) Γ (rhe0I Γ M) (f_X0_isAhead_79 k36 Γ M v0 v1 v2 v4 v5) 79 [(0, rhR v0), (1, rhI v1), (2, rhI v2), (4, rhI v4), (5, rhI v5)] [] Γ M := by
  intro v0 v1 v2 v4 v5
  rw [f_X0_isAhead_79]
  refine rhF.aload_n (pc := 79) dX0_isAhead_79 0 rfl ?_
  refine rhF.iload_n (pc := 80) dX0_isAhead_80 1 rfl ?_
  refine rhF.ck (fun h12 => ?_)
  refine rhF.callV (pc := 81) (ci := 0) (embc := rhe0I _ _) [rhI _] dX0_isAhead_81 ml_X0_63 mv_X0_parentOf ⟨_, rfl, rfl⟩ h12 (c_X0_parentOf _ _ _ _ _) (by decide) (by decide) rfl (Nat.le_of_ble_eq_true rfl) (fun r13 _ => ?_)
  refine rhF.istore_n (pc := 84) (L' := [(1, rhI _), (0, rhR _), (2, rhI _), (4, rhI _), (5, rhI _)]) dX0_isAhead_84 (by decide) rfl ?_
  refine rhF.aload_n (pc := 85) dX0_isAhead_85 1 rfl ?_
  refine rhF.iload_n (pc := 86) dX0_isAhead_86 2 rfl ?_
  refine rhF.callV (pc := 87) (ci := 0) (embc := rhe0I _ _) [rhI _] dX0_isAhead_87 ml_X0_63 mv_X0_parentOf ⟨_, rfl, rfl⟩ h12 (c_X0_parentOf _ _ _ _ _) (by decide) (by decide) rfl (Nat.le_of_ble_eq_true rfl) (fun r14 _ => ?_)
  refine rhF.istore_n (pc := 90) (L' := [(2, rhI _), (1, rhI _), (0, rhR _), (4, rhI _), (5, rhI _)]) dX0_isAhead_90 (by decide) rfl ?_
  refine rhF.iinc (pc := 91) (L' := [(5, rhI _), (2, rhI _), (1, rhI _), (0, rhR _), (4, rhI _)]) dX0_isAhead_91 4 rfl rfl (by decide) rfl ?_
  refine rhF.goto (pc := 94) 36 dX0_isAhead_94 (by decide) ?_
  refine rhF.sub [3, 2, 1, 4, 0] rfl ?_
  exact hk36 _ _ _ _ _
set_option maxHeartbeats 4000000 in
set_option maxRecDepth 100000 in
theorem b_X0_isAhead_77 {E : rhE} {Γ : rhG} {M : rhM} {k79 : Nat → Int32 → Int32 → Int32 → Int32 → Option (Int32)} (hk79 : ∀ (v0 : Nat) (v1 : Int32) (v2 : Int32) (v4 : Int32) (v5 : Int32), rhF E 5 6 yX0_isAhead cX0_isAhead (some .boolean) Γ (rhe0I Γ M) (k79 v0 v1 v2 v4 v5) 79 [(0, rhR v0), (1, rhI v1), (2, rhI v2), (4, rhI v4), (5, rhI v5)] [] Γ M) : ∀ (v0 : Nat) (v1 : Int32) (v2 : Int32) (v5 : Int32) (s0 : Int32), rhF E 5 6 yX0_isAhead cX0_isAhead (some .boolean) Γ (rhe0I Γ M) (f_X0_isAhead_77 k79 Γ M v0 v1 v2 v5 s0) 77 [(0, rhR v0), (1, rhI v1), (2, rhI v2), (5, rhI v5)] [rhI s0] Γ M := by
  intro v0 v1 v2 v5 s0
  rw [f_X0_isAhead_77]
  refine rhF.istore (pc := 77) (L' := [(4, rhI _), (0, rhR _), (1, rhI _), (2, rhI _), (5, rhI _)]) dX0_isAhead_77 (by decide) rfl ?_
  refine rhF.sub [1, 2, 3, 0, 4] rfl ?_
  exact hk79 _ _ _ _ _
set_option maxHeartbeats 4000000 in
set_option maxRecDepth 100000 in
theorem b_X0_isAhead_36 {E : rhE} {Γ : rhG} {M : rhM} : ∀ (n : Nat) (v0 : Nat) (v1 : Int32) (v2 : Int32) (v4 : Int32) (v5 : Int32), rhF E 5 6 yX0_isAhead cX0_isAhead (some .boolean) Γ (rhe0I Γ M) (f_X0_isAhead_36 Γ M n v0 v1 v2 v4 v5) 36 [(0, rhR v0), (1, rhI v1), (2, rhI v2), (4, rhI v4), (5, rhI v5)] [] Γ M := by
  intro n
  induction n with
  | zero => intro v0 v1 v2 v4 v5; rw [f_X0_isAhead_36]; exact rhF.nope
  | succ n ih =>
    intro v0 v1 v2 v4 v5
    rw [f_X0_isAhead_36]
    refine rhF.iload (pc := 36) dX0_isAhead_36 4 rfl ?_
    refine rhF.if_le (pc := 38) 97 dX0_isAhead_38 (by decide) (fun h5 => ?_) (fun h5 => ?_)
    · refine rhF.iload_n (pc := 41) dX0_isAhead_41 1 rfl ?_
      refine rhF.iload_n (pc := 42) dX0_isAhead_42 2 rfl ?_
      refine rhF.icmp_eq (pc := 43) 97 dX0_isAhead_43 (by decide) (fun h6 => ?_) (fun h6 => ?_)
      · refine rhF.iload (pc := 97) dX0_isAhead_97 3 rfl ?_
        refine rhF.ck (fun h7 => ?_)
        exact rhF.zret (pc := 99) dX0_isAhead_99 rfl (rhzb h7) rfl
      · refine rhF.aload_n (pc := 46) dX0_isAhead_46 0 rfl ?_
        refine rhF.iload_n (pc := 47) dX0_isAhead_47 1 rfl ?_
        refine rhF.ck (fun h8 => ?_)
        refine rhF.callV (pc := 48) (ci := 0) (embc := rhe0I _ _) [rhI _] dX0_isAhead_48 ml_X0_60 mv_X0_codeOf ⟨_, rfl, rfl⟩ h8 (c_X0_codeOf _ _ _ _ _) (by decide) (by decide) rfl (Nat.le_of_ble_eq_true rfl) (fun r9 _ => ?_)
        refine rhF.aload_n (pc := 51) dX0_isAhead_51 0 rfl ?_
        refine rhF.iload_n (pc := 52) dX0_isAhead_52 2 rfl ?_
        refine rhF.callV (pc := 53) (ci := 0) (embc := rhe0I _ _) [rhI _] dX0_isAhead_53 ml_X0_60 mv_X0_codeOf ⟨_, rfl, rfl⟩ h8 (c_X0_codeOf _ _ _ _ _) (by decide) (by decide) rfl (Nat.le_of_ble_eq_true rfl) (fun r10 _ => ?_)
        refine rhF.icmp_eq (pc := 56) 79 dX0_isAhead_56 (by decide) (fun h11 => ?_) (fun h11 => ?_)
        · exact (b_X0_isAhead_79 ih) _ _ _ _ _
        · refine rhF.aload_n (pc := 59) dX0_isAhead_59 0 rfl ?_
          refine rhF.iload_n (pc := 60) dX0_isAhead_60 1 rfl ?_
          refine rhF.callV (pc := 61) (ci := 0) (embc := rhe0I _ _) [rhI _] dX0_isAhead_61 ml_X0_60 mv_X0_codeOf ⟨_, rfl, rfl⟩ h8 (c_X0_codeOf _ _ _ _ _) (by decide) (by decide) rfl (Nat.le_of_ble_eq_true rfl) (fun r16 _ => ?_)
          refine rhF.aload_n (pc := 64) dX0_isAhead_64 0 rfl ?_
          refine rhF.iload_n (pc := 65) dX0_isAhead_65 2 rfl ?_
          refine rhF.callV (pc := 66) (ci := 0) (embc := rhe0I _ _) [rhI _] dX0_isAhead_66 ml_X0_60 mv_X0_codeOf ⟨_, rfl, rfl⟩ h8 (c_X0_codeOf _ _ _ _ _) (by decide) (by decide) rfl (Nat.le_of_ble_eq_true rfl) (fun r17 _ => ?_)
          refine rhF.icmp_ge (pc := 69) 76 dX0_isAhead_69 (by decide) (fun h18 => ?_) (fun h18 => ?_)
          · refine rhF.iconst (pc := 72) (v := 1) dX0_isAhead_72 (by decide) ?_
            refine rhF.goto (pc := 73) 77 dX0_isAhead_73 (by decide) ?_
            refine rhF.sub [0, 1, 2, 4] rfl ?_
            exact (b_X0_isAhead_77 (b_X0_isAhead_79 ih)) _ _ _ _ _
          · refine rhF.iconst (pc := 76) (v := 0) dX0_isAhead_76 (by decide) ?_
            refine rhF.sub [0, 1, 2, 4] rfl ?_
            exact (b_X0_isAhead_77 (b_X0_isAhead_79 ih)) _ _ _ _ _
    · refine rhF.iload (pc := 97) dX0_isAhead_97 3 rfl ?_
      refine rhF.ck (fun h19 => ?_)
      exact rhF.zret (pc := 99) dX0_isAhead_99 rfl (rhzb h19) rfl
set_option maxHeartbeats 4000000 in
set_option maxRecDepth 100000 in
theorem b_X0_isAhead {E : rhE} {Γ : rhG} {M : rhM} : ∀ (v0 : Nat) (v1 : Int32) (v2 : Int32), rhF E 5 6 yX0_isAhead cX0_isAhead (some .boolean) Γ (rhe0I Γ M) (f_X0_isAhead Γ M v0 v1 v2) 0 [(0, rhR v0), (1, rhI v1), (2, rhI v2)] [] Γ M := by
  intro v0 v1 v2
  rw [f_X0_isAhead]
  refine rhF.aload_n (pc := 0) dX0_isAhead_0 0 rfl ?_
  refine rhF.iload_n (pc := 1) dX0_isAhead_1 1 rfl ?_
  refine rhF.ck (fun h1 => ?_)
  refine rhF.callV (pc := 2) (ci := 0) (embc := rhe0I _ _) [rhI _] dX0_isAhead_2 ml_X0_56 mv_X0_pullsTo ⟨_, rfl, rfl⟩ h1 (c_X0_pullsTo _ _ _ _ _) (by decide) (by decide) rfl (Nat.le_of_ble_eq_true rfl) (fun r2 _ => ?_)
  refine rhF.istore_n (pc := 5) (L' := [(3, rhI _), (0, rhR _), (1, rhI _), (2, rhI _)]) dX0_isAhead_5 (by decide) rfl ?_
  refine rhF.iload_n (pc := 6) dX0_isAhead_6 0 rfl ?_
  refine rhF.aload_n (pc := 7) dX0_isAhead_7 1 rfl ?_
  refine rhF.iload_n (pc := 8) dX0_isAhead_8 3 rfl ?_
  refine rhF.callV (pc := 9) (ci := 0) (embc := rhe0I _ _) [rhI _] dX0_isAhead_9 ml_X0_56 mv_X0_pullsTo ⟨_, rfl, rfl⟩ h1 (c_X0_pullsTo _ _ _ _ _) (by decide) (by decide) rfl (Nat.le_of_ble_eq_true rfl) (fun r3 _ => ?_)
  refine rhF.icmp_eq (pc := 12) 30 dX0_isAhead_12 (by decide) (fun h4 => ?_) (fun h4 => ?_)
  · refine rhF.iconst (pc := 30) (v := 0) dX0_isAhead_30 (by decide) ?_
    refine rhF.istore (pc := 31) (L' := [(4, rhI _), (3, rhI _), (0, rhR _), (1, rhI _), (2, rhI _)]) dX0_isAhead_31 (by decide) rfl ?_
    refine rhF.iload_n (pc := 33) dX0_isAhead_33 1 rfl ?_
    refine rhF.istore (pc := 34) (L' := [(5, rhI _), (4, rhI _), (3, rhI _), (0, rhR _), (1, rhI _), (2, rhI _)]) dX0_isAhead_34 (by decide) rfl ?_
    refine rhF.sub [3, 4, 5, 1, 0] rfl ?_
    exact (b_X0_isAhead_36 rhFU) _ _ _ _ _
  · refine rhF.iload_n (pc := 15) dX0_isAhead_15 0 rfl ?_
    refine rhF.aload_n (pc := 16) dX0_isAhead_16 1 rfl ?_
    refine rhF.iload_n (pc := 17) dX0_isAhead_17 3 rfl ?_
    refine rhF.callV (pc := 18) (ci := 0) (embc := rhe0I _ _) [rhI _] dX0_isAhead_18 ml_X0_56 mv_X0_pullsTo ⟨_, rfl, rfl⟩ h1 (c_X0_pullsTo _ _ _ _ _) (by decide) (by decide) rfl (Nat.le_of_ble_eq_true rfl) (fun r20 _ => ?_)
    refine rhF.icmp_ge (pc := 21) 28 dX0_isAhead_21 (by decide) (fun h21 => ?_) (fun h21 => ?_)
    · refine rhF.iconst (pc := 24) (v := 1) dX0_isAhead_24 (by decide) ?_
      refine rhF.goto (pc := 25) 29 dX0_isAhead_25 (by decide) ?_
      exact rhF.zret (pc := 29) dX0_isAhead_29 rfl rfl rfl
    · refine rhF.iconst (pc := 28) (v := 0) dX0_isAhead_28 (by decide) ?_
      exact rhF.zret (pc := 29) dX0_isAhead_29 rfl rfl rfl
theorem c_X0_isAhead (E : rhE) (Γ : rhG) (M : rhM) (v0 : Nat) (v1 : Int32) (v2 : Int32) : ∀ a, f_X0_isAhead Γ M v0 v1 v2 = some a → rhC E 5 yX0_isAhead cX0_isAhead 6 (some .boolean) [rhR v0, rhI v1, rhI v2] Γ M ((rhe0I Γ M) a) := rhF.met (by decide +kernel) (Nat.le_of_ble_eq_true rfl) (b_X0_isAhead v0 v1 v2)
def f_X0_better (Γ : rhG) (M : rhM) (v0 : Nat) (v1 : Int32) (v2 : Int32) : Option (Int32) :=
  if v2 = ((-1)) then
    (some v1)
  else
    rhck (Γ.2.2.1 v0 = 1) <|
    (f_X0_isAhead Γ M v0 v1 v2).bind fun r3 =>
    if r3 = 0 then
      (some v2)
    else
      some v1
set_option maxHeartbeats 4000000 in
set_option maxRecDepth 100000 in
theorem b_X0_better {E : rhE} {Γ : rhG} {M : rhM} : ∀ (v0 : Nat) (v1 : Int32) (v2 : Int32), rhF E 6 3 yX0_better cX0_better (some .int) Γ (rhe0I Γ M) (f_X0_better Γ M v0 v1 v2) 0 [(0, rhR v0), (1, rhI v1), (2, rhI v2)] [] Γ M := by
  intro v0 v1 v2
  rw [f_X0_better]
  refine rhF.iload_n (pc := 0) dX0_better_0 2 rfl ?_
  refine rhF.iconst (pc := 1) (v := (-1)) dX0_better_1 (by decide) ?_
  refine rhF.icmp_eq (pc := 2) 14 dX0_better_2 (by decide) (fun h1 => ?_) (fun h1 => ?_)
  · refine rhF.iload_n (pc := 14) dX0_better_14 1 rfl ?_
    refine rhF.goto (pc := 15) 19 dX0_better_15 (by decide) ?_
    exact rhF.zret (pc := 19) dX0_better_19 rfl rfl rfl
  · refine rhF.aload_n (pc := 5) dX0_better_5 0 rfl ?_
    refine rhF.iload_n (pc := 6) dX0_better_6 1 rfl ?_
    refine rhF.iload_n (pc := 7) dX0_better_7 2 rfl ?_
    refine rhF.ck (fun h2 => ?_)
    refine rhF.callV (pc := 8) (ci := 0) (embc := rhe0I _ _) [rhI _, rhI _] dX0_better_8 ml_X0_66 mv_X0_isAhead ⟨_, rfl, rfl⟩ h2 (c_X0_isAhead _ _ _ _ _ _) (by decide) (by decide) rfl (Nat.le_of_ble_eq_true rfl) (fun r3 _ => ?_)
    refine rhF.if_eq (pc := 11) 18 dX0_better_11 (by decide) (fun h4 => ?_) (fun h4 => ?_)
    · refine rhF.iload_n (pc := 18) dX0_better_18 2 rfl ?_
      exact rhF.zret (pc := 19) dX0_better_19 rfl rfl rfl
    · refine rhF.iload_n (pc := 14) dX0_better_14 1 rfl ?_
      refine rhF.goto (pc := 15) 19 dX0_better_15 (by decide) ?_
      exact rhF.zret (pc := 19) dX0_better_19 rfl rfl rfl
theorem c_X0_better (E : rhE) (Γ : rhG) (M : rhM) (v0 : Nat) (v1 : Int32) (v2 : Int32) : ∀ a, f_X0_better Γ M v0 v1 v2 = some a → rhC E 6 yX0_better cX0_better 3 (some .int) [rhR v0, rhI v1, rhI v2] Γ M ((rhe0I Γ M) a) := rhF.met (by decide +kernel) (Nat.le_of_ble_eq_true rfl) (b_X0_better v0 v1 v2)
def f_X3_clear (Γ : rhG) (M : rhM) (v0 : Nat) : Option (rhM) :=
  rhck (Γ.2.2.1 v0 = 4) <|
  let M2 := rhsi M v0 1 0
  let M3 := rhsi M2 v0 2 0
  some M3
set_option maxHeartbeats 4000000 in
set_option maxRecDepth 100000 in
theorem b_X3_clear {E : rhE} {Γ : rhG} : ∀ (M : rhM) (v0 : Nat), rhF E 1 1 yX3_clear cX3_clear none Γ (rhe1U Γ) (f_X3_clear Γ M v0) 0 [(0, rhR v0)] [] Γ M := by
  intro M v0
  rw [f_X3_clear]
  refine rhF.aload_n (pc := 0) dX3_clear_0 0 rfl ?_
  refine rhF.iconst (pc := 1) (v := 0) dX3_clear_1 (by decide) ?_
  refine rhF.ck (fun h1 => ?_)
  refine rhF.puti (pc := 2) dX3_clear_2 fl_X3_19 h1 (fun q hq => by cases hq; exact Or.inl rfl) ⟨rfl, rfl⟩ (fun _ => rfl) ?_
  refine rhF.aload_n (pc := 5) dX3_clear_5 0 rfl ?_
  refine rhF.iconst (pc := 6) (v := 0) dX3_clear_6 (by decide) ?_
  refine rhF.puti (pc := 7) dX3_clear_7 fl_X3_23 h1 (fun q hq => by cases hq; exact Or.inl rfl) ⟨rfl, rfl⟩ (fun _ => rfl) ?_
  exact rhF.vret (pc := 10) dX3_clear_10 rfl rfl
theorem c_X3_clear (E : rhE) (Γ : rhG) (M : rhM) (v0 : Nat) : ∀ a, f_X3_clear Γ M v0 = some a → rhC E 1 yX3_clear cX3_clear 1 none [rhR v0] Γ M ((rhe1U Γ) a) := rhF.met (by decide +kernel) (Nat.le_of_ble_eq_true rfl) (b_X3_clear M v0)
def f_X3_widen (Γ : rhG) (M : rhM) (v0 : Nat) (v1 : Int32) : Option (rhG × rhM) :=
  rhck (Γ.2.2.1 v0 = 4) <|
  rhck (Γ.2.2.1 (M.2.2 v0 0) = 15) <|
  if (Int32.ofNat (Γ.2.2.2 (M.2.2 v0 0))) < v1 then
    (let x4 : Int32 := if v1 < (2 * (Int32.ofNat (Γ.2.2.2 (M.2.2 v0 0)))) then 2 * (Int32.ofNat (Γ.2.2.2 (M.2.2 v0 0))) else v1
    rhck (0 ≤ (x4 : Int32).toInt ∧ (x4 : Int32).toInt ≤ 67108864) <|
    let M7 := rhmn M (nu (Γ.1 + 1))
    let G6 := rhgn Γ 15 (x4 : Int32).toNatClampNeg (x4 : Int32).toNatClampNeg
    rhck (G6.2.2.1 v0 = 4) <|
    let M9 := rhsr M7 v0 0 ((nu (Γ.1 + 1)))
    some (G6, M9))
  else
    some (Γ, M)
set_option maxHeartbeats 4000000 in
set_option maxRecDepth 100000 in
theorem b_X3_widen {E : rhE} {Γ0 : rhG} : ∀ (Γ : rhG) (M : rhM) (v0 : Nat) (v1 : Int32), rhF E 5 2 yX3_widen cX3_widen none Γ0 rhe2U (f_X3_widen Γ M v0 v1) 0 [(0, rhR v0), (1, rhI v1)] [] Γ M := by
  intro Γ M v0 v1
  rw [f_X3_widen]
  refine rhF.iload_n (pc := 0) dX3_widen_0 1 rfl ?_
  refine rhF.aload_n (pc := 1) dX3_widen_1 0 rfl ?_
  refine rhF.ck (fun h1 => ?_)
  refine rhF.get (pc := 2) (rhR _) dX3_widen_2 fl_X3_13 h1 rfl ?_
  refine rhF.ck (fun h2 => ?_)
  refine rhF.alen15 (pc := 5) dX3_widen_5 h2 ?_
  refine rhF.icmp_le (pc := 6) 26 dX3_widen_6 (by decide) (fun h3 => ?_) (fun h3 => ?_)
  · refine rhF.aload_n (pc := 9) dX3_widen_9 0 rfl ?_
    refine rhF.iload_n (pc := 10) dX3_widen_10 1 rfl ?_
    refine rhF.iconst (pc := 11) (v := 2) dX3_widen_11 (by decide) ?_
    refine rhF.aload_n (pc := 12) dX3_widen_12 0 rfl ?_
    refine rhF.get (pc := 13) (rhR _) dX3_widen_13 fl_X3_13 h1 rfl ?_
    refine rhF.alen15 (pc := 16) dX3_widen_16 h2 ?_
    refine rhF.imul (pc := 17) dX3_widen_17 ?_
    refine rhF.mmax (pc := 18) dX3_widen_18 mm_X3_7 (by decide) (Nat.le_of_ble_eq_true rfl) ?_
    refine rhF.ck (fun h5 => ?_)
    refine rhF.newI (pc := 21) dX3_widen_21 ac_int h5 ?_
    refine rhF.ck (fun h8 => ?_)
    refine rhF.putr (pc := 23) dX3_widen_23 fl_X3_13 h8 (fun q hq => by cases hq; exact Or.inl rfl) (Or.inr ⟨_, rfl⟩) (fun _ => rfl) ?_
    exact rhF.vret (pc := 26) dX3_widen_26 rfl rfl
  · exact rhF.vret (pc := 26) dX3_widen_26 rfl rfl
theorem c_X3_widen (E : rhE) (Γ : rhG) (M : rhM) (v0 : Nat) (v1 : Int32) : ∀ a, f_X3_widen Γ M v0 v1 = some a → rhC E 5 yX3_widen cX3_widen 2 none [rhR v0, rhI v1] Γ M (rhe2U a) := rhF.met (by decide +kernel) (Nat.le_of_ble_eq_true rfl) (b_X3_widen (Γ0 := Γ) Γ M v0 v1)
def f_X0_copyRow_29 : Nat → rhG → rhM → Nat → Int32 → Nat → Int32 → Option (rhG × rhM)
  | 0, _, _, _, _, _, _ => none
  | n + 1, Γ, M, v0, v1, v2, v3 =>
    if v3 < 0 then
      (some (Γ, M))
    else
      rhck (Γ.2.2.1 v2 = 4) <|
      rhck (Γ.2.2.1 v0 = 1) <|
      (f_X0_codeOf Γ M v0 v1).bind fun r14 =>
      rhck (Γ.2.2.1 (M.2.2 v2 0) = 15) <|
      rhck (0 ≤ (v3).toInt ∧ (v3).toInt < (Γ.2.2.2 (M.2.2 v2 0) : Nat)) <|
      let M17 := rhsi M (M.2.2 v2 0) (v3 : Int32).toNatClampNeg r14
      (f_X0_parentOf Γ M17 v0 v1).bind fun r18 =>
      let x19 : Int32 := v3 + (-1)
      f_X0_copyRow_29 n Γ M17 v0 r18 v2 x19
def f_X0_copyRow (Γ : rhG) (M : rhM) (v0 : Nat) (v1 : Int32) (v2 : Nat) : Option (rhG × rhM) :=
  rhck (Γ.2.2.1 v2 = 4) <|
  (f_X3_clear Γ M v2).bind fun r2 =>
  rhck (Γ.2.2.1 v0 = 1) <|
  (f_X0_pullsTo Γ r2 v0 v1).bind fun r4 =>
  (f_X3_widen Γ r2 v2 r4).bind fun r5 =>
  rhck (r5.1.2.2.1 v0 = 1) <|
  (f_X0_pullsTo r5.1 r5.2 v0 v1).bind fun r7 =>
  rhck (r5.1.2.2.1 v2 = 4) <|
  let M9 := rhsi r5.2 v2 1 r7
  let x10 := (M9.1 v2 1) - 1
  f_X0_copyRow_29 rhFU r5.1 M9 v0 v1 v2 x10
set_option maxHeartbeats 4000000 in
set_option maxRecDepth 100000 in
theorem b_X0_copyRow_29 {E : rhE} {Γ0 : rhG} : ∀ (n : Nat) (Γ : rhG) (M : rhM) (v0 : Nat) (v1 : Int32) (v2 : Nat) (v3 : Int32), rhF E 6 4 yX0_copyRow cX0_copyRow none Γ0 rhe2U (f_X0_copyRow_29 n Γ M v0 v1 v2 v3) 29 [(0, rhR v0), (1, rhI v1), (2, rhR v2), (3, rhI v3)] [] Γ M := by
  intro n
  induction n with
  | zero => intro Γ M v0 v1 v2 v3; rw [f_X0_copyRow_29]; exact rhF.nope
  | succ n ih =>
    intro Γ M v0 v1 v2 v3
    rw [f_X0_copyRow_29]
    refine rhF.iload_n (pc := 29) dX0_copyRow_29 3 rfl ?_
    refine rhF.if_lt (pc := 30) 56 dX0_copyRow_30 (by decide) (fun h11 => ?_) (fun h11 => ?_)
    · exact rhF.vret (pc := 56) dX0_copyRow_56 rfl rfl
    · refine rhF.aload_n (pc := 33) dX0_copyRow_33 2 rfl ?_
      refine rhF.ck (fun h12 => ?_)
      refine rhF.get (pc := 34) (rhR _) dX0_copyRow_34 fl_X0_82 h12 rfl ?_
      refine rhF.iload_n (pc := 37) dX0_copyRow_37 3 rfl ?_
      refine rhF.aload_n (pc := 38) dX0_copyRow_38 0 rfl ?_
      refine rhF.iload_n (pc := 39) dX0_copyRow_39 1 rfl ?_
      refine rhF.ck (fun h13 => ?_)
      refine rhF.callV (pc := 40) (ci := 0) (embc := rhe0I _ _) [rhI _] dX0_copyRow_40 ml_X0_60 mv_X0_codeOf ⟨_, rfl, rfl⟩ h13 (c_X0_codeOf _ _ _ _ _) (by decide) (by decide) rfl (Nat.le_of_ble_eq_true rfl) (fun r14 _ => ?_)
      refine rhF.ck (fun h15 => ?_)
      refine rhF.ck (fun h16 => ?_)
      refine rhF.iast (pc := 43) dX0_copyRow_43 h15 h16 ?_
      refine rhF.aload_n (pc := 44) dX0_copyRow_44 0 rfl ?_
      refine rhF.iload_n (pc := 45) dX0_copyRow_45 1 rfl ?_
      refine rhF.callV (pc := 46) (ci := 0) (embc := rhe0I _ _) [rhI _] dX0_copyRow_46 ml_X0_63 mv_X0_parentOf ⟨_, rfl, rfl⟩ h13 (c_X0_parentOf _ _ _ _ _) (by decide) (by decide) rfl (Nat.le_of_ble_eq_true rfl) (fun r18 _ => ?_)
      refine rhF.istore_n (pc := 49) (L' := [(1, rhI _), (0, rhR _), (2, rhR _), (3, rhI _)]) dX0_copyRow_49 (by decide) rfl ?_
      refine rhF.iinc (pc := 50) (L' := [(3, rhI _), (1, rhI _), (0, rhR _), (2, rhR _)]) dX0_copyRow_50 3 rfl rfl (by decide) rfl ?_
      refine rhF.goto (pc := 53) 29 dX0_copyRow_53 (by decide) ?_
      refine rhF.sub [2, 1, 3, 0] rfl ?_
      exact ih _ _ _ _ _ _
set_option maxHeartbeats 4000000 in
set_option maxRecDepth 100000 in
theorem b_X0_copyRow {E : rhE} {Γ0 : rhG} : ∀ (Γ : rhG) (M : rhM) (v0 : Nat) (v1 : Int32) (v2 : Nat), rhF E 6 4 yX0_copyRow cX0_copyRow none Γ0 rhe2U (f_X0_copyRow Γ M v0 v1 v2) 0 [(0, rhR v0), (1, rhI v1), (2, rhR v2)] [] Γ M := by
  intro Γ M v0 v1 v2
  rw [f_X0_copyRow]
  refine rhF.aload_n (pc := 0) dX0_copyRow_0 2 rfl ?_
  refine rhF.ck (fun h1 => ?_)
  refine rhF.callV (pc := 1) (ci := 3) (embc := rhe1U _) [] dX0_copyRow_1 ml_X0_70 mv_X3_clear ⟨_, rfl, rfl⟩ h1 (c_X3_clear _ _ _ _) (by decide) (by decide) rfl (Nat.le_of_ble_eq_true rfl) (fun r2 _ => ?_)
  refine rhF.aload_n (pc := 4) dX0_copyRow_4 2 rfl ?_
  refine rhF.aload_n (pc := 5) dX0_copyRow_5 0 rfl ?_
  refine rhF.iload_n (pc := 6) dX0_copyRow_6 1 rfl ?_
  refine rhF.ck (fun h3 => ?_)
  refine rhF.callV (pc := 7) (ci := 0) (embc := rhe0I _ _) [rhI _] dX0_copyRow_7 ml_X0_56 mv_X0_pullsTo ⟨_, rfl, rfl⟩ h3 (c_X0_pullsTo _ _ _ _ _) (by decide) (by decide) rfl (Nat.le_of_ble_eq_true rfl) (fun r4 _ => ?_)
  refine rhF.callV (pc := 10) (ci := 3) (embc := rhe2U) [rhI _] dX0_copyRow_10 ml_X0_75 mv_X3_widen ⟨_, rfl, rfl⟩ h1 (c_X3_widen _ _ _ _ _) (by decide) (by decide) rfl (Nat.le_of_ble_eq_true rfl) (fun r5 _ => ?_)
  refine rhF.aload_n (pc := 13) dX0_copyRow_13 2 rfl ?_
  refine rhF.aload_n (pc := 14) dX0_copyRow_14 0 rfl ?_
  refine rhF.iload_n (pc := 15) dX0_copyRow_15 1 rfl ?_
  refine rhF.ck (fun h6 => ?_)
  refine rhF.callV (pc := 16) (ci := 0) (embc := rhe0I _ _) [rhI _] dX0_copyRow_16 ml_X0_56 mv_X0_pullsTo ⟨_, rfl, rfl⟩ h6 (c_X0_pullsTo _ _ _ _ _) (by decide) (by decide) rfl (Nat.le_of_ble_eq_true rfl) (fun r7 _ => ?_)
  refine rhF.ck (fun h8 => ?_)
  refine rhF.puti (pc := 19) dX0_copyRow_19 fl_X0_79 h8 (fun q hq => by cases hq; exact Or.inl rfl) ⟨rfl, rfl⟩ (fun _ => rfl) ?_
  refine rhF.aload_n (pc := 22) dX0_copyRow_22 2 rfl ?_
  refine rhF.get (pc := 23) (rhI _) dX0_copyRow_23 fl_X0_79 h8 rfl ?_
  refine rhF.iconst (pc := 26) (v := 1) dX0_copyRow_26 (by decide) ?_
  refine rhF.isub (pc := 27) dX0_copyRow_27 ?_
  refine rhF.istore_n (pc := 28) (L' := [(3, rhI _), (0, rhR _), (1, rhI _), (2, rhR _)]) dX0_copyRow_28 (by decide) rfl ?_
  refine rhF.sub [1, 2, 3, 0] rfl ?_
  exact (b_X0_copyRow_29 rhFU) _ _ _ _ _ _
theorem c_X0_copyRow (E : rhE) (Γ : rhG) (M : rhM) (v0 : Nat) (v1 : Int32) (v2 : Nat) : ∀ a, f_X0_copyRow Γ M v0 v1 v2 = some a → rhC E 6 yX0_copyRow cX0_copyRow 4 none [rhR v0, rhI v1, rhR v2] Γ M (rhe2U a) := rhF.met (by decide +kernel) (Nat.le_of_ble_eq_true rfl) (b_X0_copyRow (Γ0 := Γ) Γ M v0 v1 v2)
def f_X0_drop_93 (Γ : rhG) (M : rhM) (v0 : Nat) : Option (rhM) :=
  rhck (Γ.2.2.1 v0 = 1) <|
  let M17 := rhsi M v0 1 ((M.1 v0 1) - 1)
  some M17
def f_X0_drop_58 (Γ : rhG) (M : rhM) (v0 : Nat) (v2 : Int32) (v3 : Int32) (v4 : Int32) : Option (rhM) :=
  if v4 = 65535 then
    (rhck (Γ.2.2.1 v0 = 1) <|
    rhck (Γ.2.2.1 (M.2.2 v0 6) = 15) <|
    rhck (0 ≤ (v2).toInt ∧ (v2).toInt < (Γ.2.2.2 (M.2.2 v0 6) : Nat)) <|
    let M15 := rhsi M (M.2.2 v0 6) (v2 : Int32).toNatClampNeg v3
    f_X0_drop_93 Γ M15 v0)
  else
    rhck (Γ.2.2.1 v0 = 1) <|
    (f_X0_behind Γ M v0 v4).bind fun r19 =>
    rhck (Γ.2.2.1 (M.2.2 v0 4) = 15) <|
    rhck (0 ≤ (v4).toInt ∧ (v4).toInt < (Γ.2.2.2 (M.2.2 v0 4) : Nat)) <|
    let M22 := rhsi M (M.2.2 v0 4) (v4 : Int32).toNatClampNeg ((r19 <<< (16 &&& 31)) ||| v3)
    f_X0_drop_93 Γ M22 v0
def f_X0_drop (Γ : rhG) (M : rhM) (v0 : Nat) (v1 : Int32) : Option (rhM) :=
  rhck (Γ.2.2.1 v0 = 1) <|
  rhck (Γ.2.2.1 (M.2.2 v0 3) = 15) <|
  rhck (0 ≤ (v1).toInt ∧ (v1).toInt < (Γ.2.2.2 (M.2.2 v0 3) : Nat)) <|
  let x4 := (M.1 (M.2.2 v0 3) v1.toNatClampNeg) &&& 1023
  (f_X0_ahead Γ M v0 v1).bind fun r5 =>
  (f_X0_behind Γ M v0 v1).bind fun r6 =>
  if r5 = 65535 then
    (rhck (Γ.2.2.1 (M.2.2 v0 5) = 15) <|
    rhck (0 ≤ (x4).toInt ∧ (x4).toInt < (Γ.2.2.2 (M.2.2 v0 5) : Nat)) <|
    let M10 := rhsi M (M.2.2 v0 5) (x4 : Int32).toNatClampNeg r6
    f_X0_drop_58 Γ M10 v0 x4 r5 r6)
  else
    (f_X0_ahead Γ M v0 r5).bind fun r23 =>
    rhck (Γ.2.2.1 (M.2.2 v0 4) = 15) <|
    rhck (0 ≤ (r5).toInt ∧ (r5).toInt < (Γ.2.2.2 (M.2.2 v0 4) : Nat)) <|
    let M26 := rhsi M (M.2.2 v0 4) (r5 : Int32).toNatClampNeg ((r6 <<< (16 &&& 31)) ||| r23)
    f_X0_drop_58 Γ M26 v0 x4 r5 r6
set_option maxHeartbeats 4000000 in
set_option maxRecDepth 100000 in
theorem b_X0_drop_93 {E : rhE} {Γ : rhG} : ∀ (M : rhM) (v0 : Nat), rhF E 5 5 yX0_drop cX0_drop none Γ (rhe1U Γ) (f_X0_drop_93 Γ M v0) 93 [(0, rhR v0)] [] Γ M := by
  intro M v0
  rw [f_X0_drop_93]
  refine rhF.aload_n (pc := 93) dX0_drop_93 0 rfl ?_
  refine rhF.dupr (pc := 94) dX0_drop_94 ?_
  refine rhF.ck (fun h16 => ?_)
  refine rhF.get (pc := 95) (rhI _) dX0_drop_95 fl_X0_38 h16 rfl ?_
  refine rhF.iconst (pc := 98) (v := 1) dX0_drop_98 (by decide) ?_
  refine rhF.isub (pc := 99) dX0_drop_99 ?_
  refine rhF.puti (pc := 100) dX0_drop_100 fl_X0_38 h16 (fun q hq => by cases hq; exact Or.inl rfl) ⟨rfl, rfl⟩ (fun _ => rfl) ?_
  exact rhF.vret (pc := 103) dX0_drop_103 rfl rfl
set_option maxHeartbeats 4000000 in
set_option maxRecDepth 100000 in
theorem b_X0_drop_58 {E : rhE} {Γ : rhG} : ∀ (M : rhM) (v0 : Nat) (v2 : Int32) (v3 : Int32) (v4 : Int32), rhF E 5 5 yX0_drop cX0_drop none Γ (rhe1U Γ) (f_X0_drop_58 Γ M v0 v2 v3 v4) 58 [(0, rhR v0), (2, rhI v2), (3, rhI v3), (4, rhI v4)] [] Γ M := by
  intro M v0 v2 v3 v4
  rw [f_X0_drop_58]
  refine rhF.iload (pc := 58) dX0_drop_58 3 rfl ?_
  refine rhF.ldc (pc := 60) dX0_drop_60 k_X0_52 ?_
  refine rhF.icmp_ne (pc := 62) 75 dX0_drop_62 (by decide) (fun h11 => ?_) (fun h11 => ?_)
  · refine rhF.aload_n (pc := 65) dX0_drop_65 0 rfl ?_
    refine rhF.ck (fun h12 => ?_)
    refine rhF.get (pc := 66) (rhR _) dX0_drop_66 fl_X0_15 h12 rfl ?_
    refine rhF.iload_n (pc := 69) dX0_drop_69 1 rfl ?_
    refine rhF.iload_n (pc := 70) dX0_drop_70 2 rfl ?_
    refine rhF.ck (fun h13 => ?_)
    refine rhF.ck (fun h14 => ?_)
    refine rhF.iast (pc := 71) dX0_drop_71 h13 h14 ?_
    refine rhF.goto (pc := 72) 93 dX0_drop_72 (by decide) ?_
    refine rhF.sub [0] rfl ?_
    exact (b_X0_drop_93) _ _
  · refine rhF.aload_n (pc := 75) dX0_drop_75 0 rfl ?_
    refine rhF.ck (fun h18 => ?_)
    refine rhF.get (pc := 76) (rhR _) dX0_drop_76 fl_X0_35 h18 rfl ?_
    refine rhF.iload (pc := 79) dX0_drop_79 3 rfl ?_
    refine rhF.aload_n (pc := 81) dX0_drop_81 0 rfl ?_
    refine rhF.iload (pc := 82) dX0_drop_82 3 rfl ?_
    refine rhF.callV (pc := 84) (ci := 0) (embc := rhe0I _ _) [rhI _] dX0_drop_84 ml_X0_89 mv_X0_behind ⟨_, rfl, rfl⟩ h18 (c_X0_behind _ _ _ _ _) (by decide) (by decide) rfl (Nat.le_of_ble_eq_true rfl) (fun r19 _ => ?_)
    refine rhF.bipush (pc := 87) (v := 16) dX0_drop_87 (by decide) ?_
    refine rhF.ishl (pc := 89) dX0_drop_89 ?_
    refine rhF.iload_n (pc := 90) dX0_drop_90 2 rfl ?_
    refine rhF.ior (pc := 91) dX0_drop_91 ?_
    refine rhF.ck (fun h20 => ?_)
    refine rhF.ck (fun h21 => ?_)
    refine rhF.iast (pc := 92) dX0_drop_92 h20 h21 ?_
    refine rhF.sub [0] rfl ?_
    exact (b_X0_drop_93) _ _
set_option maxHeartbeats 4000000 in
set_option maxRecDepth 100000 in
theorem b_X0_drop {E : rhE} {Γ : rhG} : ∀ (M : rhM) (v0 : Nat) (v1 : Int32), rhF E 5 5 yX0_drop cX0_drop none Γ (rhe1U Γ) (f_X0_drop Γ M v0 v1) 0 [(0, rhR v0), (1, rhI v1)] [] Γ M := by
  intro M v0 v1
  rw [f_X0_drop]
  refine rhF.aload_n (pc := 0) dX0_drop_0 0 rfl ?_
  refine rhF.ck (fun h1 => ?_)
  refine rhF.get (pc := 1) (rhR _) dX0_drop_1 fl_X0_32 h1 rfl ?_
  refine rhF.iload_n (pc := 4) dX0_drop_4 1 rfl ?_
  refine rhF.ck (fun h2 => ?_)
  refine rhF.ck (fun h3 => ?_)
  refine rhF.iald (pc := 5) dX0_drop_5 h2 h3 ?_
  refine rhF.sipush (pc := 6) (v := 1023) dX0_drop_6 (by decide) ?_
  refine rhF.iand (pc := 9) dX0_drop_9 ?_
  refine rhF.istore_n (pc := 10) (L' := [(2, rhI _), (0, rhR _), (1, rhI _)]) dX0_drop_10 (by decide) rfl ?_
  refine rhF.aload_n (pc := 11) dX0_drop_11 1 rfl ?_
  refine rhF.iload_n (pc := 12) dX0_drop_12 2 rfl ?_
  refine rhF.callV (pc := 13) (ci := 0) (embc := rhe0I _ _) [rhI _] dX0_drop_13 ml_X0_85 mv_X0_ahead ⟨_, rfl, rfl⟩ h1 (c_X0_ahead _ _ _ _ _) (by decide) (by decide) rfl (Nat.le_of_ble_eq_true rfl) (fun r5 _ => ?_)
  refine rhF.istore_n (pc := 16) (L' := [(3, rhI _), (2, rhI _), (0, rhR _), (1, rhI _)]) dX0_drop_16 (by decide) rfl ?_
  refine rhF.aload_n (pc := 17) dX0_drop_17 2 rfl ?_
  refine rhF.iload_n (pc := 18) dX0_drop_18 3 rfl ?_
  refine rhF.callV (pc := 19) (ci := 0) (embc := rhe0I _ _) [rhI _] dX0_drop_19 ml_X0_89 mv_X0_behind ⟨_, rfl, rfl⟩ h1 (c_X0_behind _ _ _ _ _) (by decide) (by decide) rfl (Nat.le_of_ble_eq_true rfl) (fun r6 _ => ?_)
  refine rhF.istore (pc := 22) (L' := [(4, rhI _), (3, rhI _), (2, rhI _), (0, rhR _), (1, rhI _)]) dX0_drop_22 (by decide) rfl ?_
  refine rhF.iload_n (pc := 24) dX0_drop_24 1 rfl ?_
  refine rhF.ldc (pc := 25) dX0_drop_25 k_X0_52 ?_
  refine rhF.icmp_ne (pc := 27) 41 dX0_drop_27 (by decide) (fun h7 => ?_) (fun h7 => ?_)
  · refine rhF.aload_n (pc := 30) dX0_drop_30 3 rfl ?_
    refine rhF.get (pc := 31) (rhR _) dX0_drop_31 fl_X0_11 h1 rfl ?_
    refine rhF.iload_n (pc := 34) dX0_drop_34 2 rfl ?_
    refine rhF.iload (pc := 35) dX0_drop_35 0 rfl ?_
    refine rhF.ck (fun h8 => ?_)
    refine rhF.ck (fun h9 => ?_)
    refine rhF.iast (pc := 37) dX0_drop_37 h8 h9 ?_
    refine rhF.goto (pc := 38) 58 dX0_drop_38 (by decide) ?_
    refine rhF.sub [3, 2, 1, 0] rfl ?_
    exact (b_X0_drop_58) _ _ _ _ _
  · refine rhF.aload_n (pc := 41) dX0_drop_41 3 rfl ?_
    refine rhF.get (pc := 42) (rhR _) dX0_drop_42 fl_X0_35 h1 rfl ?_
    refine rhF.iload_n (pc := 45) dX0_drop_45 1 rfl ?_
    refine rhF.iload (pc := 46) dX0_drop_46 0 rfl ?_
    refine rhF.bipush (pc := 48) (v := 16) dX0_drop_48 (by decide) ?_
    refine rhF.ishl (pc := 50) dX0_drop_50 ?_
    refine rhF.aload_n (pc := 51) dX0_drop_51 3 rfl ?_
    refine rhF.iload_n (pc := 52) dX0_drop_52 1 rfl ?_
    refine rhF.callV (pc := 53) (ci := 0) (embc := rhe0I _ _) [rhI _] dX0_drop_53 ml_X0_85 mv_X0_ahead ⟨_, rfl, rfl⟩ h1 (c_X0_ahead _ _ _ _ _) (by decide) (by decide) rfl (Nat.le_of_ble_eq_true rfl) (fun r23 _ => ?_)
    refine rhF.ior (pc := 56) dX0_drop_56 ?_
    refine rhF.ck (fun h24 => ?_)
    refine rhF.ck (fun h25 => ?_)
    refine rhF.iast (pc := 57) dX0_drop_57 h24 h25 ?_
    refine rhF.sub [3, 2, 1, 0] rfl ?_
    exact (b_X0_drop_58) _ _ _ _ _
theorem c_X0_drop (E : rhE) (Γ : rhG) (M : rhM) (v0 : Nat) (v1 : Int32) : ∀ a, f_X0_drop Γ M v0 v1 = some a → rhC E 5 yX0_drop cX0_drop 5 none [rhR v0, rhI v1] Γ M ((rhe1U Γ) a) := rhF.met (by decide +kernel) (Nat.le_of_ble_eq_true rfl) (b_X0_drop M v0 v1)
def f_X0_headOf (Γ : rhG) (M : rhM) (v0 : Nat) (v1 : Int32) : Option (Int32) :=
  rhck (Γ.2.2.1 v0 = 1) <|
  rhck (Γ.2.2.1 (M.2.2 v0 5) = 15) <|
  rhck (0 ≤ (v1 &&& 1023).toInt ∧ (v1 &&& 1023).toInt < (Γ.2.2.2 (M.2.2 v0 5) : Nat)) <|
  some (M.1 (M.2.2 v0 5) (v1 &&& 1023).toNatClampNeg)
set_option maxHeartbeats 4000000 in
set_option maxRecDepth 100000 in
theorem b_X0_headOf {E : rhE} {Γ : rhG} {M : rhM} : ∀ (v0 : Nat) (v1 : Int32), rhF E 1 2 yX0_headOf cX0_headOf (some .int) Γ (rhe0I Γ M) (f_X0_headOf Γ M v0 v1) 0 [(0, rhR v0), (1, rhI v1)] [] Γ M := by
  intro v0 v1
  rw [f_X0_headOf]
  refine rhF.aload_n (pc := 0) dX0_headOf_0 0 rfl ?_
  refine rhF.ck (fun h1 => ?_)
  refine rhF.get (pc := 1) (rhR _) dX0_headOf_1 fl_X0_11 h1 rfl ?_
  refine rhF.iload_n (pc := 4) dX0_headOf_4 1 rfl ?_
  refine rhF.sipush (pc := 5) (v := 1023) dX0_headOf_5 (by decide) ?_
  refine rhF.iand (pc := 8) dX0_headOf_8 ?_
  refine rhF.ck (fun h2 => ?_)
  refine rhF.ck (fun h3 => ?_)
  refine rhF.iald (pc := 9) dX0_headOf_9 h2 h3 ?_
  exact rhF.zret (pc := 10) dX0_headOf_10 rfl rfl rfl
theorem c_X0_headOf (E : rhE) (Γ : rhG) (M : rhM) (v0 : Nat) (v1 : Int32) : ∀ a, f_X0_headOf Γ M v0 v1 = some a → rhC E 1 yX0_headOf cX0_headOf 2 (some .int) [rhR v0, rhI v1] Γ M ((rhe0I Γ M) a) := rhF.met (by decide +kernel) (Nat.le_of_ble_eq_true rfl) (b_X0_headOf v0 v1)
def f_X0_init (Γ : rhG) (M : rhM) (v0 : Nat) (v1 : Int32) : Option (rhG × rhM) :=
  rhck (Γ.2.2.1 v0 = 1) <|
  rhck (0 ≤ (1024 : Int32).toInt ∧ (1024 : Int32).toInt ≤ 67108864) <|
  let M4 := rhmn M (nu (Γ.1 + 1))
  let G3 := rhgn Γ 15 (1024 : Int32).toNatClampNeg (1024 : Int32).toNatClampNeg
  rhck (G3.2.2.1 v0 = 1) <|
  let M6 := rhsr M4 v0 5 ((nu (Γ.1 + 1)))
  rhck (0 ≤ (1024 : Int32).toInt ∧ (1024 : Int32).toInt ≤ 67108864) <|
  let M9 := rhmn M6 (nu (G3.1 + 1))
  let G8 := rhgn G3 15 (1024 : Int32).toNatClampNeg (1024 : Int32).toNatClampNeg
  rhck (G8.2.2.1 v0 = 1) <|
  let M11 := rhsr M9 v0 6 ((nu (G3.1 + 1)))
  let x12 : Int32 := if v1 < 0 then 0 else v1
  let M13 := rhsi M11 v0 0 x12
  rhck (0 ≤ (M13.1 v0 0 : Int32).toInt ∧ (M13.1 v0 0 : Int32).toInt ≤ 67108864) <|
  let M16 := rhmn M13 (nu (G8.1 + 1))
  let G15 := rhgn G8 16 (M13.1 v0 0 : Int32).toNatClampNeg (M13.1 v0 0 : Int32).toNatClampNeg
  rhck (G15.2.2.1 v0 = 1) <|
  let M18 := rhsr M16 v0 2 ((nu (G8.1 + 1)))
  rhck (0 ≤ (M16.1 v0 0 : Int32).toInt ∧ (M16.1 v0 0 : Int32).toInt ≤ 67108864) <|
  let M21 := rhmn M18 (nu (G15.1 + 1))
  let G20 := rhgn G15 15 (M16.1 v0 0 : Int32).toNatClampNeg (M16.1 v0 0 : Int32).toNatClampNeg
  rhck (G20.2.2.1 v0 = 1) <|
  let M23 := rhsr M21 v0 3 ((nu (G15.1 + 1)))
  rhck (0 ≤ (M21.1 v0 0 : Int32).toInt ∧ (M21.1 v0 0 : Int32).toInt ≤ 67108864) <|
  let M26 := rhmn M23 (nu (G20.1 + 1))
  let G25 := rhgn G20 15 (M21.1 v0 0 : Int32).toNatClampNeg (M21.1 v0 0 : Int32).toNatClampNeg
  rhck (G25.2.2.1 v0 = 1) <|
  let M28 := rhsr M26 v0 4 ((nu (G20.1 + 1)))
  some (G25, M28)
set_option maxHeartbeats 4000000 in
set_option maxRecDepth 100000 in
theorem b_X0_init {E : rhE} {Γ0 : rhG} : ∀ (Γ : rhG) (M : rhM) (v0 : Nat) (v1 : Int32), rhF E 5 2 yX0_init cX0_init none Γ0 rhe2U (f_X0_init Γ M v0 v1) 0 [(0, rhR v0), (1, rhI v1)] [] Γ M := by
  intro Γ M v0 v1
  rw [f_X0_init]
  refine rhF.aload_n (pc := 0) dX0_init_0 0 rfl ?_
  refine rhF.ck (fun h1 => ?_)
  refine rhF.objInit (pc := 1) dX0_init_1 oi_X0_3 (fun z => absurd (h1.symm.trans z) (by decide)) (by decide) (Nat.le_of_ble_eq_true rfl) ?_
  refine rhF.aload_n (pc := 4) dX0_init_4 0 rfl ?_
  refine rhF.sipush (pc := 5) (v := 1024) dX0_init_5 (by decide) ?_
  refine rhF.ck (fun h2 => ?_)
  refine rhF.newI (pc := 8) dX0_init_8 ac_int h2 ?_
  refine rhF.ck (fun h5 => ?_)
  refine rhF.putr (pc := 10) dX0_init_10 fl_X0_11 h5 (fun q hq => by cases hq; exact Or.inr ⟨rfl, rfl, rfl⟩) (Or.inr ⟨_, rfl⟩) (fun _ => rfl) ?_
  refine rhF.aload_n (pc := 13) dX0_init_13 0 rfl ?_
  refine rhF.sipush (pc := 14) (v := 1024) dX0_init_14 (by decide) ?_
  refine rhF.ck (fun h7 => ?_)
  refine rhF.newI (pc := 17) dX0_init_17 ac_int h7 ?_
  refine rhF.ck (fun h10 => ?_)
  refine rhF.putr (pc := 19) dX0_init_19 fl_X0_15 h10 (fun q hq => by cases hq; exact Or.inr ⟨rfl, rfl, rfl⟩) (Or.inr ⟨_, rfl⟩) (fun _ => rfl) ?_
  refine rhF.aload_n (pc := 22) dX0_init_22 0 rfl ?_
  refine rhF.iload_n (pc := 23) dX0_init_23 1 rfl ?_
  refine rhF.iconst (pc := 24) (v := 0) dX0_init_24 (by decide) ?_
  refine rhF.mmax (pc := 25) dX0_init_25 mm_X0_18 (by decide) (Nat.le_of_ble_eq_true rfl) ?_
  refine rhF.puti (pc := 28) dX0_init_28 fl_X0_24 h10 (fun q hq => by cases hq; exact Or.inr ⟨rfl, rfl, rfl⟩) ⟨rfl, rfl⟩ (fun _ => rfl) ?_
  refine rhF.aload_n (pc := 31) dX0_init_31 0 rfl ?_
  refine rhF.aload_n (pc := 32) dX0_init_32 0 rfl ?_
  refine rhF.get (pc := 33) (rhI _) dX0_init_33 fl_X0_24 h10 rfl ?_
  refine rhF.ck (fun h14 => ?_)
  refine rhF.newJ (pc := 36) dX0_init_36 ac_long h14 ?_
  refine rhF.ck (fun h17 => ?_)
  refine rhF.putr (pc := 38) dX0_init_38 fl_X0_28 h17 (fun q hq => by cases hq; exact Or.inr ⟨rfl, rfl, rfl⟩) (Or.inr ⟨_, rfl⟩) (fun _ => rfl) ?_
  refine rhF.aload_n (pc := 41) dX0_init_41 0 rfl ?_
  refine rhF.aload_n (pc := 42) dX0_init_42 0 rfl ?_
  refine rhF.get (pc := 43) (rhI _) dX0_init_43 fl_X0_24 h17 rfl ?_
  refine rhF.ck (fun h19 => ?_)
  refine rhF.newI (pc := 46) dX0_init_46 ac_int h19 ?_
  refine rhF.ck (fun h22 => ?_)
  refine rhF.putr (pc := 48) dX0_init_48 fl_X0_32 h22 (fun q hq => by cases hq; exact Or.inr ⟨rfl, rfl, rfl⟩) (Or.inr ⟨_, rfl⟩) (fun _ => rfl) ?_
  refine rhF.aload_n (pc := 51) dX0_init_51 0 rfl ?_
  refine rhF.aload_n (pc := 52) dX0_init_52 0 rfl ?_
  refine rhF.get (pc := 53) (rhI _) dX0_init_53 fl_X0_24 h22 rfl ?_
  refine rhF.ck (fun h24 => ?_)
  refine rhF.newI (pc := 56) dX0_init_56 ac_int h24 ?_
  refine rhF.ck (fun h27 => ?_)
  refine rhF.putr (pc := 58) dX0_init_58 fl_X0_35 h27 (fun q hq => by cases hq; exact Or.inr ⟨rfl, rfl, rfl⟩) (Or.inr ⟨_, rfl⟩) (fun _ => rfl) ?_
  exact rhF.vret (pc := 61) dX0_init_61 rfl rfl
theorem c_X0_init (E : rhE) (Γ : rhG) (M : rhM) (v0 : Nat) (v1 : Int32) : ∀ a, f_X0_init Γ M v0 v1 = some a → rhC E 5 yX0_init cX0_init 2 none [rhR v0, rhI v1] Γ M (rhe2U a) := rhF.met (by decide +kernel) (Nat.le_of_ble_eq_true rfl) (b_X0_init (Γ0 := Γ) Γ M v0 v1)
def f_X0_isBetter (Γ : rhG) (M : rhM) (v0 : Nat) (v1 : Int32) (v2 : Int32) (v3 : Int32) : Option (Int32) :=
  rhck (Γ.2.2.1 v0 = 1) <|
  rhck (Γ.2.2.1 (M.2.2 v0 3) = 15) <|
  rhck (0 ≤ (v1).toInt ∧ (v1).toInt < (Γ.2.2.2 (M.2.2 v0 3) : Nat)) <|
  if v3 = (M.1 (M.2.2 v0 3) v1.toNatClampNeg) then
    ((f_X0_parentOf Γ M v0 v1).bind fun r5 =>
    (f_X0_isAhead Γ M v0 v2 r5).bind fun r6 =>
    rhck (r6 = 0 ∨ r6 = 1) <|
    some r6)
  else
    if v3 < (M.1 (M.2.2 v0 3) v1.toNatClampNeg) then
      (some 1)
    else
      some 0
set_option maxHeartbeats 4000000 in
set_option maxRecDepth 100000 in
theorem b_X0_isBetter {E : rhE} {Γ : rhG} {M : rhM} : ∀ (v0 : Nat) (v1 : Int32) (v2 : Int32) (v3 : Int32), rhF E 6 4 yX0_isBetter cX0_isBetter (some .boolean) Γ (rhe0I Γ M) (f_X0_isBetter Γ M v0 v1 v2 v3) 0 [(0, rhR v0), (1, rhI v1), (2, rhI v2), (3, rhI v3)] [] Γ M := by
  intro v0 v1 v2 v3
  rw [f_X0_isBetter]
  refine rhF.iload_n (pc := 0) dX0_isBetter_0 3 rfl ?_
  refine rhF.aload_n (pc := 1) dX0_isBetter_1 0 rfl ?_
  refine rhF.ck (fun h1 => ?_)
  refine rhF.get (pc := 2) (rhR _) dX0_isBetter_2 fl_X0_32 h1 rfl ?_
  refine rhF.iload_n (pc := 5) dX0_isBetter_5 1 rfl ?_
  refine rhF.ck (fun h2 => ?_)
  refine rhF.ck (fun h3 => ?_)
  refine rhF.iald (pc := 6) dX0_isBetter_6 h2 h3 ?_
  refine rhF.icmp_eq (pc := 7) 26 dX0_isBetter_7 (by decide) (fun h4 => ?_) (fun h4 => ?_)
  · refine rhF.aload_n (pc := 26) dX0_isBetter_26 0 rfl ?_
    refine rhF.iload_n (pc := 27) dX0_isBetter_27 2 rfl ?_
    refine rhF.aload_n (pc := 28) dX0_isBetter_28 0 rfl ?_
    refine rhF.iload_n (pc := 29) dX0_isBetter_29 1 rfl ?_
    refine rhF.callV (pc := 30) (ci := 0) (embc := rhe0I _ _) [rhI _] dX0_isBetter_30 ml_X0_63 mv_X0_parentOf ⟨_, rfl, rfl⟩ h1 (c_X0_parentOf _ _ _ _ _) (by decide) (by decide) rfl (Nat.le_of_ble_eq_true rfl) (fun r5 _ => ?_)
    refine rhF.callV (pc := 33) (ci := 0) (embc := rhe0I _ _) [rhI _, rhI _] dX0_isBetter_33 ml_X0_66 mv_X0_isAhead ⟨_, rfl, rfl⟩ h1 (c_X0_isAhead _ _ _ _ _ _) (by decide) (by decide) rfl (Nat.le_of_ble_eq_true rfl) (fun r6 _ => ?_)
    refine rhF.ck (fun h7 => ?_)
    exact rhF.zret (pc := 36) dX0_isBetter_36 rfl (rhzb h7) rfl
  · refine rhF.iload_n (pc := 10) dX0_isBetter_10 3 rfl ?_
    refine rhF.aload_n (pc := 11) dX0_isBetter_11 0 rfl ?_
    refine rhF.get (pc := 12) (rhR _) dX0_isBetter_12 fl_X0_32 h1 rfl ?_
    refine rhF.iload_n (pc := 15) dX0_isBetter_15 1 rfl ?_
    refine rhF.iald (pc := 16) dX0_isBetter_16 h2 h3 ?_
    refine rhF.icmp_ge (pc := 17) 24 dX0_isBetter_17 (by decide) (fun h8 => ?_) (fun h8 => ?_)
    · refine rhF.iconst (pc := 20) (v := 1) dX0_isBetter_20 (by decide) ?_
      refine rhF.goto (pc := 21) 25 dX0_isBetter_21 (by decide) ?_
      exact rhF.zret (pc := 25) dX0_isBetter_25 rfl rfl rfl
    · refine rhF.iconst (pc := 24) (v := 0) dX0_isBetter_24 (by decide) ?_
      exact rhF.zret (pc := 25) dX0_isBetter_25 rfl rfl rfl
theorem c_X0_isBetter (E : rhE) (Γ : rhG) (M : rhM) (v0 : Nat) (v1 : Int32) (v2 : Int32) (v3 : Int32) : ∀ a, f_X0_isBetter Γ M v0 v1 v2 v3 = some a → rhC E 6 yX0_isBetter cX0_isBetter 4 (some .boolean) [rhR v0, rhI v1, rhI v2, rhI v3] Γ M ((rhe0I Γ M) a) := rhF.met (by decide +kernel) (Nat.le_of_ble_eq_true rfl) (b_X0_isBetter v0 v1 v2 v3)
def f_X0_isNew (Γ : rhG) (M : rhM) (v0 : Nat) (v1 : Int32) : Option (Int32) :=
  if v1 < 0 then
    (some 0)
  else
    rhck (Γ.2.2.1 v0 = 1) <|
    if v1 < (M.1 v0 0) then
      (rhck (Γ.2.2.1 (M.2.2 v0 2) = 16) <|
      rhck (0 ≤ (v1).toInt ∧ (v1).toInt < (Γ.2.2.2 (M.2.2 v0 2) : Nat)) <|
      if (M.2.1 (M.2.2 v0 2) v1.toNatClampNeg) = ((-1 : Int64)) then
        (some 1)
      else
        some 0)
    else
      some 0
set_option maxHeartbeats 4000000 in
set_option maxRecDepth 100000 in
theorem b_X0_isNew {E : rhE} {Γ : rhG} {M : rhM} : ∀ (v0 : Nat) (v1 : Int32), rhF E 1 2 yX0_isNew cX0_isNew (some .boolean) Γ (rhe0I Γ M) (f_X0_isNew Γ M v0 v1) 0 [(0, rhR v0), (1, rhI v1)] [] Γ M := by
  intro v0 v1
  rw [f_X0_isNew]
  refine rhF.iload_n (pc := 0) dX0_isNew_0 1 rfl ?_
  refine rhF.if_lt (pc := 1) 29 dX0_isNew_1 (by decide) (fun h1 => ?_) (fun h1 => ?_)
  · refine rhF.iconst (pc := 29) (v := 0) dX0_isNew_29 (by decide) ?_
    exact rhF.zret (pc := 30) dX0_isNew_30 rfl rfl rfl
  · refine rhF.iload_n (pc := 4) dX0_isNew_4 1 rfl ?_
    refine rhF.aload_n (pc := 5) dX0_isNew_5 0 rfl ?_
    refine rhF.ck (fun h2 => ?_)
    refine rhF.get (pc := 6) (rhI _) dX0_isNew_6 fl_X0_24 h2 rfl ?_
    refine rhF.icmp_ge (pc := 9) 29 dX0_isNew_9 (by decide) (fun h3 => ?_) (fun h3 => ?_)
    · refine rhF.aload_n (pc := 12) dX0_isNew_12 0 rfl ?_
      refine rhF.get (pc := 13) (rhR _) dX0_isNew_13 fl_X0_28 h2 rfl ?_
      refine rhF.iload_n (pc := 16) dX0_isNew_16 1 rfl ?_
      refine rhF.ck (fun h4 => ?_)
      refine rhF.ck (fun h5 => ?_)
      refine rhF.lald (pc := 17) dX0_isNew_17 h4 h5 ?_
      refine rhF.ldc2 (pc := 18) dX0_isNew_18 k_X0_44 ?_
      refine rhF.lcne (pc := 21) 29 dX0_isNew_21 dX0_isNew_22 (by decide) (fun h6 => ?_) (fun h6 => ?_)
      · refine rhF.iconst (pc := 25) (v := 1) dX0_isNew_25 (by decide) ?_
        refine rhF.goto (pc := 26) 30 dX0_isNew_26 (by decide) ?_
        exact rhF.zret (pc := 30) dX0_isNew_30 rfl rfl rfl
      · refine rhF.iconst (pc := 29) (v := 0) dX0_isNew_29 (by decide) ?_
        exact rhF.zret (pc := 30) dX0_isNew_30 rfl rfl rfl
    · refine rhF.iconst (pc := 29) (v := 0) dX0_isNew_29 (by decide) ?_
      exact rhF.zret (pc := 30) dX0_isNew_30 rfl rfl rfl
theorem c_X0_isNew (E : rhE) (Γ : rhG) (M : rhM) (v0 : Nat) (v1 : Int32) : ∀ a, f_X0_isNew Γ M v0 v1 = some a → rhC E 1 yX0_isNew cX0_isNew 2 (some .boolean) [rhR v0, rhI v1] Γ M ((rhe0I Γ M) a) := rhF.met (by decide +kernel) (Nat.le_of_ble_eq_true rfl) (b_X0_isNew v0 v1)
def f_X0_lead_17 (Γ : rhG) (M : rhM) (v0 : Nat) (v1 : Int32) (v2 : Int32) (v3 : Int32) (s0 : Int64) : Option (rhM) :=
  rhck (Γ.2.2.1 v0 = 1) <|
  rhck (Γ.2.2.1 (M.2.2 v0 2) = 16) <|
  rhck (0 ≤ (v1).toInt ∧ (v1).toInt < (Γ.2.2.2 (M.2.2 v0 2) : Nat)) <|
  let M5 := rhsl M (M.2.2 v0 2) (v1 : Int32).toNatClampNeg ((rhsh ((rhsh s0 16) ||| (Int32.toInt64 v2)) 9) ||| (Int32.toInt64 v3))
  some M5
def f_X0_lead (Γ : rhG) (M : rhM) (v0 : Nat) (v1 : Int32) (v2 : Int32) (v3 : Int32) : Option (rhM) :=
  if v1 = v2 then
    (f_X0_lead_17 Γ M v0 v1 v2 v3 ((0 : Int64)))
  else
    rhck (Γ.2.2.1 v0 = 1) <|
    (f_X0_pullsTo Γ M v0 v2).bind fun r7 =>
    f_X0_lead_17 Γ M v0 v1 v2 v3 (Int32.toInt64 (r7 + 1))
set_option maxHeartbeats 4000000 in
set_option maxRecDepth 100000 in
theorem b_X0_lead_17 {E : rhE} {Γ : rhG} : ∀ (M : rhM) (v0 : Nat) (v1 : Int32) (v2 : Int32) (v3 : Int32) (s0 : Int64), rhF E 5 6 yX0_lead cX0_lead none Γ (rhe1U Γ) (f_X0_lead_17 Γ M v0 v1 v2 v3 s0) 17 [(0, rhR v0), (1, rhI v1), (2, rhI v2), (3, rhI v3)] [rhJ s0] Γ M := by
  intro M v0 v1 v2 v3 s0
  rw [f_X0_lead_17]
  refine rhF.lstore (pc := 17) (L' := [(4, rhJ _), (0, rhR _), (1, rhI _), (2, rhI _), (3, rhI _)]) dX0_lead_17 (by decide) rfl ?_
  refine rhF.aload_n (pc := 19) dX0_lead_19 1 rfl ?_
  refine rhF.ck (fun h2 => ?_)
  refine rhF.get (pc := 20) (rhR _) dX0_lead_20 fl_X0_28 h2 rfl ?_
  refine rhF.iload_n (pc := 23) dX0_lead_23 2 rfl ?_
  refine rhF.lload (pc := 24) dX0_lead_24 0 rfl ?_
  refine rhF.bipush (pc := 26) (v := 16) dX0_lead_26 (by decide) ?_
  refine rhF.lshl (pc := 28) dX0_lead_28 ?_
  refine rhF.iload_n (pc := 29) dX0_lead_29 3 rfl ?_
  refine rhF.i2l (pc := 30) dX0_lead_30 ?_
  refine rhF.lor (pc := 31) dX0_lead_31 ?_
  refine rhF.bipush (pc := 32) (v := 9) dX0_lead_32 (by decide) ?_
  refine rhF.lshl (pc := 34) dX0_lead_34 ?_
  refine rhF.iload_n (pc := 35) dX0_lead_35 4 rfl ?_
  refine rhF.i2l (pc := 36) dX0_lead_36 ?_
  refine rhF.lor (pc := 37) dX0_lead_37 ?_
  refine rhF.ck (fun h3 => ?_)
  refine rhF.ck (fun h4 => ?_)
  refine rhF.last (pc := 38) dX0_lead_38 h3 h4 ?_
  exact rhF.vret (pc := 39) dX0_lead_39 rfl rfl
set_option maxHeartbeats 4000000 in
set_option maxRecDepth 100000 in
theorem b_X0_lead {E : rhE} {Γ : rhG} : ∀ (M : rhM) (v0 : Nat) (v1 : Int32) (v2 : Int32) (v3 : Int32), rhF E 5 6 yX0_lead cX0_lead none Γ (rhe1U Γ) (f_X0_lead Γ M v0 v1 v2 v3) 0 [(0, rhR v0), (1, rhI v1), (2, rhI v2), (3, rhI v3)] [] Γ M := by
  intro M v0 v1 v2 v3
  rw [f_X0_lead]
  refine rhF.iload_n (pc := 0) dX0_lead_0 1 rfl ?_
  refine rhF.iload_n (pc := 1) dX0_lead_1 2 rfl ?_
  refine rhF.icmp_ne (pc := 2) 9 dX0_lead_2 (by decide) (fun h1 => ?_) (fun h1 => ?_)
  · refine rhF.lconst (pc := 5) (v := 0) dX0_lead_5 (by decide) ?_
    refine rhF.goto (pc := 6) 17 dX0_lead_6 (by decide) ?_
    exact (b_X0_lead_17) _ _ _ _ _ _
  · refine rhF.aload_n (pc := 9) dX0_lead_9 0 rfl ?_
    refine rhF.iload_n (pc := 10) dX0_lead_10 2 rfl ?_
    refine rhF.ck (fun h6 => ?_)
    refine rhF.callV (pc := 11) (ci := 0) (embc := rhe0I _ _) [rhI _] dX0_lead_11 ml_X0_56 mv_X0_pullsTo ⟨_, rfl, rfl⟩ h6 (c_X0_pullsTo _ _ _ _ _) (by decide) (by decide) rfl (Nat.le_of_ble_eq_true rfl) (fun r7 _ => ?_)
    refine rhF.iconst (pc := 14) (v := 1) dX0_lead_14 (by decide) ?_
    refine rhF.iadd (pc := 15) dX0_lead_15 ?_
    refine rhF.i2l (pc := 16) dX0_lead_16 ?_
    exact (b_X0_lead_17) _ _ _ _ _ _
theorem c_X0_lead (E : rhE) (Γ : rhG) (M : rhM) (v0 : Nat) (v1 : Int32) (v2 : Int32) (v3 : Int32) : ∀ a, f_X0_lead Γ M v0 v1 v2 v3 = some a → rhC E 5 yX0_lead cX0_lead 6 none [rhR v0, rhI v1, rhI v2, rhI v3] Γ M ((rhe1U Γ) a) := rhF.met (by decide +kernel) (Nat.le_of_ble_eq_true rfl) (b_X0_lead M v0 v1 v2 v3)
def f_X0_put_49 (Γ : rhG) (M : rhM) (v0 : Nat) (v1 : Int32) (v2 : Int32) (v3 : Int32) (v4 : Int32) : Option (rhM) :=
  rhck (Γ.2.2.1 v0 = 1) <|
  rhck (Γ.2.2.1 (M.2.2 v0 6) = 15) <|
  rhck (0 ≤ (v3).toInt ∧ (v3).toInt < (Γ.2.2.2 (M.2.2 v0 6) : Nat)) <|
  let M13 := rhsi M (M.2.2 v0 6) (v3 : Int32).toNatClampNeg v1
  rhck (Γ.2.2.1 (M.2.2 v0 4) = 15) <|
  rhck (0 ≤ (v1).toInt ∧ (v1).toInt < (Γ.2.2.2 (M.2.2 v0 4) : Nat)) <|
  let M16 := rhsi M13 (M.2.2 v0 4) (v1 : Int32).toNatClampNeg (((-65536)) ||| v4)
  rhck (Γ.2.2.1 (M.2.2 v0 3) = 15) <|
  rhck (0 ≤ (v1).toInt ∧ (v1).toInt < (Γ.2.2.2 (M.2.2 v0 3) : Nat)) <|
  let M19 := rhsi M16 (M.2.2 v0 3) (v1 : Int32).toNatClampNeg v2
  let M20 := rhsi M19 v0 1 ((M19.1 v0 1) + 1)
  some M20
def f_X0_put (Γ : rhG) (M : rhM) (v0 : Nat) (v1 : Int32) (v2 : Int32) : Option (rhM) :=
  let x1 := v2 &&& 1023
  rhck (Γ.2.2.1 v0 = 1) <|
  rhck (Γ.2.2.1 (M.2.2 v0 6) = 15) <|
  rhck (0 ≤ (x1).toInt ∧ (x1).toInt < (Γ.2.2.2 (M.2.2 v0 6) : Nat)) <|
  let x5 := M.1 (M.2.2 v0 6) x1.toNatClampNeg
  if x5 = 65535 then
    (rhck (Γ.2.2.1 (M.2.2 v0 5) = 15) <|
    rhck (0 ≤ (x1).toInt ∧ (x1).toInt < (Γ.2.2.2 (M.2.2 v0 5) : Nat)) <|
    let M9 := rhsi M (M.2.2 v0 5) (x1 : Int32).toNatClampNeg v1
    f_X0_put_49 Γ M9 v0 v1 v2 x1 x5)
  else
    (f_X0_ahead Γ M v0 x5).bind fun r21 =>
    rhck (Γ.2.2.1 (M.2.2 v0 4) = 15) <|
    rhck (0 ≤ (x5).toInt ∧ (x5).toInt < (Γ.2.2.2 (M.2.2 v0 4) : Nat)) <|
    let M24 := rhsi M (M.2.2 v0 4) (x5 : Int32).toNatClampNeg ((v1 <<< (16 &&& 31)) ||| r21)
    f_X0_put_49 Γ M24 v0 v1 v2 x1 x5
set_option maxHeartbeats 4000000 in
set_option maxRecDepth 100000 in
theorem b_X0_put_49 {E : rhE} {Γ : rhG} : ∀ (M : rhM) (v0 : Nat) (v1 : Int32) (v2 : Int32) (v3 : Int32) (v4 : Int32), rhF E 5 5 yX0_put cX0_put none Γ (rhe1U Γ) (f_X0_put_49 Γ M v0 v1 v2 v3 v4) 49 [(0, rhR v0), (1, rhI v1), (2, rhI v2), (3, rhI v3), (4, rhI v4)] [] Γ M := by
  intro M v0 v1 v2 v3 v4
  rw [f_X0_put_49]
  refine rhF.aload_n (pc := 49) dX0_put_49 0 rfl ?_
  refine rhF.ck (fun h10 => ?_)
  refine rhF.get (pc := 50) (rhR _) dX0_put_50 fl_X0_15 h10 rfl ?_
  refine rhF.iload_n (pc := 53) dX0_put_53 3 rfl ?_
  refine rhF.iload_n (pc := 54) dX0_put_54 1 rfl ?_
  refine rhF.ck (fun h11 => ?_)
  refine rhF.ck (fun h12 => ?_)
  refine rhF.iast (pc := 55) dX0_put_55 h11 h12 ?_
  refine rhF.aload_n (pc := 56) dX0_put_56 0 rfl ?_
  refine rhF.get (pc := 57) (rhR _) dX0_put_57 fl_X0_35 h10 rfl ?_
  refine rhF.iload_n (pc := 60) dX0_put_60 1 rfl ?_
  refine rhF.ldc (pc := 61) dX0_put_61 k_X0_88 ?_
  refine rhF.iload (pc := 63) dX0_put_63 4 rfl ?_
  refine rhF.ior (pc := 65) dX0_put_65 ?_
  refine rhF.ck (fun h14 => ?_)
  refine rhF.ck (fun h15 => ?_)
  refine rhF.iast (pc := 66) dX0_put_66 h14 h15 ?_
  refine rhF.aload_n (pc := 67) dX0_put_67 0 rfl ?_
  refine rhF.get (pc := 68) (rhR _) dX0_put_68 fl_X0_32 h10 rfl ?_
  refine rhF.iload_n (pc := 71) dX0_put_71 1 rfl ?_
  refine rhF.iload_n (pc := 72) dX0_put_72 2 rfl ?_
  refine rhF.ck (fun h17 => ?_)
  refine rhF.ck (fun h18 => ?_)
  refine rhF.iast (pc := 73) dX0_put_73 h17 h18 ?_
  refine rhF.aload_n (pc := 74) dX0_put_74 0 rfl ?_
  refine rhF.dupr (pc := 75) dX0_put_75 ?_
  refine rhF.get (pc := 76) (rhI _) dX0_put_76 fl_X0_38 h10 rfl ?_
  refine rhF.iconst (pc := 79) (v := 1) dX0_put_79 (by decide) ?_
  refine rhF.iadd (pc := 80) dX0_put_80 ?_
  refine rhF.puti (pc := 81) dX0_put_81 fl_X0_38 h10 (fun q hq => by cases hq; exact Or.inl rfl) ⟨rfl, rfl⟩ (fun _ => rfl) ?_
  exact rhF.vret (pc := 84) dX0_put_84 rfl rfl
set_option maxHeartbeats 4000000 in
set_option maxRecDepth 100000 in
theorem b_X0_put {E : rhE} {Γ : rhG} : ∀ (M : rhM) (v0 : Nat) (v1 : Int32) (v2 : Int32), rhF E 5 5 yX0_put cX0_put none Γ (rhe1U Γ) (f_X0_put Γ M v0 v1 v2) 0 [(0, rhR v0), (1, rhI v1), (2, rhI v2)] [] Γ M := by
  intro M v0 v1 v2
  rw [f_X0_put]
  refine rhF.iload_n (pc := 0) dX0_put_0 2 rfl ?_
  refine rhF.sipush (pc := 1) (v := 1023) dX0_put_1 (by decide) ?_
  refine rhF.iand (pc := 4) dX0_put_4 ?_
  refine rhF.istore_n (pc := 5) (L' := [(3, rhI _), (0, rhR _), (1, rhI _), (2, rhI _)]) dX0_put_5 (by decide) rfl ?_
  refine rhF.aload_n (pc := 6) dX0_put_6 1 rfl ?_
  refine rhF.ck (fun h2 => ?_)
  refine rhF.get (pc := 7) (rhR _) dX0_put_7 fl_X0_15 h2 rfl ?_
  refine rhF.iload_n (pc := 10) dX0_put_10 0 rfl ?_
  refine rhF.ck (fun h3 => ?_)
  refine rhF.ck (fun h4 => ?_)
  refine rhF.iald (pc := 11) dX0_put_11 h3 h4 ?_
  refine rhF.istore (pc := 12) (L' := [(4, rhI _), (3, rhI _), (0, rhR _), (1, rhI _), (2, rhI _)]) dX0_put_12 (by decide) rfl ?_
  refine rhF.iload (pc := 14) dX0_put_14 0 rfl ?_
  refine rhF.ldc (pc := 16) dX0_put_16 k_X0_52 ?_
  refine rhF.icmp_ne (pc := 18) 31 dX0_put_18 (by decide) (fun h6 => ?_) (fun h6 => ?_)
  · refine rhF.aload_n (pc := 21) dX0_put_21 2 rfl ?_
    refine rhF.get (pc := 22) (rhR _) dX0_put_22 fl_X0_11 h2 rfl ?_
    refine rhF.iload_n (pc := 25) dX0_put_25 1 rfl ?_
    refine rhF.iload_n (pc := 26) dX0_put_26 3 rfl ?_
    refine rhF.ck (fun h7 => ?_)
    refine rhF.ck (fun h8 => ?_)
    refine rhF.iast (pc := 27) dX0_put_27 h7 h8 ?_
    refine rhF.goto (pc := 28) 49 dX0_put_28 (by decide) ?_
    refine rhF.sub [2, 3, 4, 1, 0] rfl ?_
    exact (b_X0_put_49) _ _ _ _ _ _
  · refine rhF.aload_n (pc := 31) dX0_put_31 2 rfl ?_
    refine rhF.get (pc := 32) (rhR _) dX0_put_32 fl_X0_35 h2 rfl ?_
    refine rhF.iload (pc := 35) dX0_put_35 0 rfl ?_
    refine rhF.iload_n (pc := 37) dX0_put_37 3 rfl ?_
    refine rhF.bipush (pc := 38) (v := 16) dX0_put_38 (by decide) ?_
    refine rhF.ishl (pc := 40) dX0_put_40 ?_
    refine rhF.aload_n (pc := 41) dX0_put_41 2 rfl ?_
    refine rhF.iload (pc := 42) dX0_put_42 0 rfl ?_
    refine rhF.callV (pc := 44) (ci := 0) (embc := rhe0I _ _) [rhI _] dX0_put_44 ml_X0_85 mv_X0_ahead ⟨_, rfl, rfl⟩ h2 (c_X0_ahead _ _ _ _ _) (by decide) (by decide) rfl (Nat.le_of_ble_eq_true rfl) (fun r21 _ => ?_)
    refine rhF.ior (pc := 47) dX0_put_47 ?_
    refine rhF.ck (fun h22 => ?_)
    refine rhF.ck (fun h23 => ?_)
    refine rhF.iast (pc := 48) dX0_put_48 h22 h23 ?_
    refine rhF.sub [2, 3, 4, 1, 0] rfl ?_
    exact (b_X0_put_49) _ _ _ _ _ _
theorem c_X0_put (E : rhE) (Γ : rhG) (M : rhM) (v0 : Nat) (v1 : Int32) (v2 : Int32) : ∀ a, f_X0_put Γ M v0 v1 v2 = some a → rhC E 5 yX0_put cX0_put 5 none [rhR v0, rhI v1, rhI v2] Γ M ((rhe1U Γ) a) := rhF.met (by decide +kernel) (Nat.le_of_ble_eq_true rfl) (b_X0_put M v0 v1 v2)
def f_X0_weightTo (Γ : rhG) (M : rhM) (v0 : Nat) (v1 : Int32) : Option (Int32) :=
  rhck (Γ.2.2.1 v0 = 1) <|
  rhck (Γ.2.2.1 (M.2.2 v0 3) = 15) <|
  rhck (0 ≤ (v1).toInt ∧ (v1).toInt < (Γ.2.2.2 (M.2.2 v0 3) : Nat)) <|
  some (M.1 (M.2.2 v0 3) v1.toNatClampNeg)
set_option maxHeartbeats 4000000 in
set_option maxRecDepth 100000 in
theorem b_X0_weightTo {E : rhE} {Γ : rhG} {M : rhM} : ∀ (v0 : Nat) (v1 : Int32), rhF E 1 2 yX0_weightTo cX0_weightTo (some .int) Γ (rhe0I Γ M) (f_X0_weightTo Γ M v0 v1) 0 [(0, rhR v0), (1, rhI v1)] [] Γ M := by
  intro v0 v1
  rw [f_X0_weightTo]
  refine rhF.aload_n (pc := 0) dX0_weightTo_0 0 rfl ?_
  refine rhF.ck (fun h1 => ?_)
  refine rhF.get (pc := 1) (rhR _) dX0_weightTo_1 fl_X0_32 h1 rfl ?_
  refine rhF.iload_n (pc := 4) dX0_weightTo_4 1 rfl ?_
  refine rhF.ck (fun h2 => ?_)
  refine rhF.ck (fun h3 => ?_)
  refine rhF.iald (pc := 5) dX0_weightTo_5 h2 h3 ?_
  exact rhF.zret (pc := 6) dX0_weightTo_6 rfl rfl rfl
theorem c_X0_weightTo (E : rhE) (Γ : rhG) (M : rhM) (v0 : Nat) (v1 : Int32) : ∀ a, f_X0_weightTo Γ M v0 v1 = some a → rhC E 1 yX0_weightTo cX0_weightTo 2 (some .int) [rhR v0, rhI v1] Γ M ((rhe0I Γ M) a) := rhF.met (by decide +kernel) (Nat.le_of_ble_eq_true rfl) (b_X0_weightTo v0 v1)
def f_X1_addStep (Γ : rhG) (M : rhM) (v0 : Nat) (v1 : Int32) (v2 : Int32) : Option (rhM) :=
  rhck (Γ.2.2.1 v0 = 2) <|
  if (M.1 v0 1) < 512 then
    (rhck (Γ.2.2.1 (M.2.2 v0 2) = 15) <|
    rhck (0 ≤ (M.1 v0 1).toInt ∧ (M.1 v0 1).toInt < (Γ.2.2.2 (M.2.2 v0 2) : Nat)) <|
    let M5 := rhsi M (M.2.2 v0 2) (M.1 v0 1 : Int32).toNatClampNeg v1
    rhck (Γ.2.2.1 (M.2.2 v0 3) = 15) <|
    rhck (0 ≤ (M5.1 v0 1).toInt ∧ (M5.1 v0 1).toInt < (Γ.2.2.2 (M.2.2 v0 3) : Nat)) <|
    let M8 := rhsi M5 (M.2.2 v0 3) (M5.1 v0 1 : Int32).toNatClampNeg v2
    let M9 := rhsi M8 v0 1 ((M8.1 v0 1) + 1)
    some M9)
  else
    some M
set_option maxHeartbeats 4000000 in
set_option maxRecDepth 100000 in
theorem b_X1_addStep {E : rhE} {Γ : rhG} : ∀ (M : rhM) (v0 : Nat) (v1 : Int32) (v2 : Int32), rhF E 1 3 yX1_addStep cX1_addStep none Γ (rhe1U Γ) (f_X1_addStep Γ M v0 v1 v2) 0 [(0, rhR v0), (1, rhI v1), (2, rhI v2)] [] Γ M := by
  intro M v0 v1 v2
  rw [f_X1_addStep]
  refine rhF.aload_n (pc := 0) dX1_addStep_0 0 rfl ?_
  refine rhF.ck (fun h1 => ?_)
  refine rhF.get (pc := 1) (rhI _) dX1_addStep_1 fl_X1_28 h1 rfl ?_
  refine rhF.sipush (pc := 4) (v := 512) dX1_addStep_4 (by decide) ?_
  refine rhF.icmp_ge (pc := 7) 40 dX1_addStep_7 (by decide) (fun h2 => ?_) (fun h2 => ?_)
  · refine rhF.aload_n (pc := 10) dX1_addStep_10 0 rfl ?_
    refine rhF.get (pc := 11) (rhR _) dX1_addStep_11 fl_X1_9 h1 rfl ?_
    refine rhF.aload_n (pc := 14) dX1_addStep_14 0 rfl ?_
    refine rhF.get (pc := 15) (rhI _) dX1_addStep_15 fl_X1_28 h1 rfl ?_
    refine rhF.iload_n (pc := 18) dX1_addStep_18 1 rfl ?_
    refine rhF.ck (fun h3 => ?_)
    refine rhF.ck (fun h4 => ?_)
    refine rhF.iast (pc := 19) dX1_addStep_19 h3 h4 ?_
    refine rhF.aload_n (pc := 20) dX1_addStep_20 0 rfl ?_
    refine rhF.get (pc := 21) (rhR _) dX1_addStep_21 fl_X1_13 h1 rfl ?_
    refine rhF.aload_n (pc := 24) dX1_addStep_24 0 rfl ?_
    refine rhF.get (pc := 25) (rhI _) dX1_addStep_25 fl_X1_28 h1 rfl ?_
    refine rhF.iload_n (pc := 28) dX1_addStep_28 2 rfl ?_
    refine rhF.ck (fun h6 => ?_)
    refine rhF.ck (fun h7 => ?_)
    refine rhF.iast (pc := 29) dX1_addStep_29 h6 h7 ?_
    refine rhF.aload_n (pc := 30) dX1_addStep_30 0 rfl ?_
    refine rhF.dupr (pc := 31) dX1_addStep_31 ?_
    refine rhF.get (pc := 32) (rhI _) dX1_addStep_32 fl_X1_28 h1 rfl ?_
    refine rhF.iconst (pc := 35) (v := 1) dX1_addStep_35 (by decide) ?_
    refine rhF.iadd (pc := 36) dX1_addStep_36 ?_
    refine rhF.puti (pc := 37) dX1_addStep_37 fl_X1_28 h1 (fun q hq => by cases hq; exact Or.inl rfl) ⟨rfl, rfl⟩ (fun _ => rfl) ?_
    exact rhF.vret (pc := 40) dX1_addStep_40 rfl rfl
  · exact rhF.vret (pc := 40) dX1_addStep_40 rfl rfl
theorem c_X1_addStep (E : rhE) (Γ : rhG) (M : rhM) (v0 : Nat) (v1 : Int32) (v2 : Int32) : ∀ a, f_X1_addStep Γ M v0 v1 v2 = some a → rhC E 1 yX1_addStep cX1_addStep 3 none [rhR v0, rhI v1, rhI v2] Γ M ((rhe1U Γ) a) := rhF.met (by decide +kernel) (Nat.le_of_ble_eq_true rfl) (b_X1_addStep M v0 v1 v2)
def f_X1_addUnit (Γ : rhG) (M : rhM) (v0 : Nat) (v1 : Int32) (v2 : Int32) : Option (rhM) :=
  rhck (Γ.2.2.1 v0 = 2) <|
  let M2 := rhsi M v0 0 ((M.1 v0 0) + 1)
  (f_X1_addStep Γ M2 v0 v1 v2).bind fun r3 =>
  some r3
set_option maxHeartbeats 4000000 in
set_option maxRecDepth 100000 in
theorem b_X1_addUnit {E : rhE} {Γ : rhG} : ∀ (M : rhM) (v0 : Nat) (v1 : Int32) (v2 : Int32), rhF E 5 3 yX1_addUnit cX1_addUnit none Γ (rhe1U Γ) (f_X1_addUnit Γ M v0 v1 v2) 0 [(0, rhR v0), (1, rhI v1), (2, rhI v2)] [] Γ M := by
  intro M v0 v1 v2
  rw [f_X1_addUnit]
  refine rhF.aload_n (pc := 0) dX1_addUnit_0 0 rfl ?_
  refine rhF.dupr (pc := 1) dX1_addUnit_1 ?_
  refine rhF.ck (fun h1 => ?_)
  refine rhF.get (pc := 2) (rhI _) dX1_addUnit_2 fl_X1_24 h1 rfl ?_
  refine rhF.iconst (pc := 5) (v := 1) dX1_addUnit_5 (by decide) ?_
  refine rhF.iadd (pc := 6) dX1_addUnit_6 ?_
  refine rhF.puti (pc := 7) dX1_addUnit_7 fl_X1_24 h1 (fun q hq => by cases hq; exact Or.inl rfl) ⟨rfl, rfl⟩ (fun _ => rfl) ?_
  refine rhF.aload_n (pc := 10) dX1_addUnit_10 0 rfl ?_
  refine rhF.iload_n (pc := 11) dX1_addUnit_11 1 rfl ?_
  refine rhF.iload_n (pc := 12) dX1_addUnit_12 2 rfl ?_
  refine rhF.callV (pc := 13) (ci := 1) (embc := rhe1U _) [rhI _, rhI _] dX1_addUnit_13 ml_X1_31 mv_X1_addStep ⟨_, rfl, rfl⟩ h1 (c_X1_addStep _ _ _ _ _ _) (by decide) (by decide) rfl (Nat.le_of_ble_eq_true rfl) (fun r3 _ => ?_)
  exact rhF.vret (pc := 16) dX1_addUnit_16 rfl rfl
theorem c_X1_addUnit (E : rhE) (Γ : rhG) (M : rhM) (v0 : Nat) (v1 : Int32) (v2 : Int32) : ∀ a, f_X1_addUnit Γ M v0 v1 v2 = some a → rhC E 5 yX1_addUnit cX1_addUnit 3 none [rhR v0, rhI v1, rhI v2] Γ M ((rhe1U Γ) a) := rhF.met (by decide +kernel) (Nat.le_of_ble_eq_true rfl) (b_X1_addUnit M v0 v1 v2)
def f_X1_clear (Γ : rhG) (M : rhM) (v0 : Nat) : Option (rhM) :=
  rhck (Γ.2.2.1 v0 = 2) <|
  let M2 := rhsi M v0 0 0
  let M3 := rhsi M2 v0 1 0
  some M3
set_option maxHeartbeats 4000000 in
set_option maxRecDepth 100000 in
theorem b_X1_clear {E : rhE} {Γ : rhG} : ∀ (M : rhM) (v0 : Nat), rhF E 1 1 yX1_clear cX1_clear none Γ (rhe1U Γ) (f_X1_clear Γ M v0) 0 [(0, rhR v0)] [] Γ M := by
  intro M v0
  rw [f_X1_clear]
  refine rhF.aload_n (pc := 0) dX1_clear_0 0 rfl ?_
  refine rhF.iconst (pc := 1) (v := 0) dX1_clear_1 (by decide) ?_
  refine rhF.ck (fun h1 => ?_)
  refine rhF.puti (pc := 2) dX1_clear_2 fl_X1_24 h1 (fun q hq => by cases hq; exact Or.inl rfl) ⟨rfl, rfl⟩ (fun _ => rfl) ?_
  refine rhF.aload_n (pc := 5) dX1_clear_5 0 rfl ?_
  refine rhF.iconst (pc := 6) (v := 0) dX1_clear_6 (by decide) ?_
  refine rhF.puti (pc := 7) dX1_clear_7 fl_X1_28 h1 (fun q hq => by cases hq; exact Or.inl rfl) ⟨rfl, rfl⟩ (fun _ => rfl) ?_
  exact rhF.vret (pc := 10) dX1_clear_10 rfl rfl
theorem c_X1_clear (E : rhE) (Γ : rhG) (M : rhM) (v0 : Nat) : ∀ a, f_X1_clear Γ M v0 = some a → rhC E 1 yX1_clear cX1_clear 1 none [rhR v0] Γ M ((rhe1U Γ) a) := rhF.met (by decide +kernel) (Nat.le_of_ble_eq_true rfl) (b_X1_clear M v0)
def f_X1_isGiven (Γ : rhG) (M : rhM) (v0 : Int32) : Option (Int32) :=
  if v0 = 6 then
    (some 1)
  else
    if v0 = 7 then
      (some 1)
    else
      if v0 < 13 then
        (some 0)
      else
        if 16 < v0 then
          (some 0)
        else
          some 1
set_option maxHeartbeats 4000000 in
set_option maxRecDepth 100000 in
theorem b_X1_isGiven {E : rhE} {Γ : rhG} {M : rhM} : ∀ (v0 : Int32), rhF E 1 1 yX1_isGiven cX1_isGiven (some .boolean) Γ (rhe0I Γ M) (f_X1_isGiven Γ M v0) 0 [(0, rhI v0)] [] Γ M := by
  intro v0
  rw [f_X1_isGiven]
  refine rhF.iload_n (pc := 0) dX1_isGiven_0 0 rfl ?_
  refine rhF.bipush (pc := 1) (v := 6) dX1_isGiven_1 (by decide) ?_
  refine rhF.icmp_eq (pc := 3) 24 dX1_isGiven_3 (by decide) (fun h1 => ?_) (fun h1 => ?_)
  · refine rhF.iconst (pc := 24) (v := 1) dX1_isGiven_24 (by decide) ?_
    refine rhF.goto (pc := 25) 29 dX1_isGiven_25 (by decide) ?_
    exact rhF.zret (pc := 29) dX1_isGiven_29 rfl rfl rfl
  · refine rhF.iload_n (pc := 6) dX1_isGiven_6 0 rfl ?_
    refine rhF.bipush (pc := 7) (v := 7) dX1_isGiven_7 (by decide) ?_
    refine rhF.icmp_eq (pc := 9) 24 dX1_isGiven_9 (by decide) (fun h2 => ?_) (fun h2 => ?_)
    · refine rhF.iconst (pc := 24) (v := 1) dX1_isGiven_24 (by decide) ?_
      refine rhF.goto (pc := 25) 29 dX1_isGiven_25 (by decide) ?_
      exact rhF.zret (pc := 29) dX1_isGiven_29 rfl rfl rfl
    · refine rhF.iload_n (pc := 12) dX1_isGiven_12 0 rfl ?_
      refine rhF.bipush (pc := 13) (v := 13) dX1_isGiven_13 (by decide) ?_
      refine rhF.icmp_lt (pc := 15) 28 dX1_isGiven_15 (by decide) (fun h3 => ?_) (fun h3 => ?_)
      · refine rhF.iconst (pc := 28) (v := 0) dX1_isGiven_28 (by decide) ?_
        exact rhF.zret (pc := 29) dX1_isGiven_29 rfl rfl rfl
      · refine rhF.iload_n (pc := 18) dX1_isGiven_18 0 rfl ?_
        refine rhF.bipush (pc := 19) (v := 16) dX1_isGiven_19 (by decide) ?_
        refine rhF.icmp_gt (pc := 21) 28 dX1_isGiven_21 (by decide) (fun h4 => ?_) (fun h4 => ?_)
        · refine rhF.iconst (pc := 28) (v := 0) dX1_isGiven_28 (by decide) ?_
          exact rhF.zret (pc := 29) dX1_isGiven_29 rfl rfl rfl
        · refine rhF.iconst (pc := 24) (v := 1) dX1_isGiven_24 (by decide) ?_
          refine rhF.goto (pc := 25) 29 dX1_isGiven_25 (by decide) ?_
          exact rhF.zret (pc := 29) dX1_isGiven_29 rfl rfl rfl
theorem c_X1_isGiven (E : rhE) (Γ : rhG) (M : rhM) (v0 : Int32) : ∀ a, f_X1_isGiven Γ M v0 = some a → rhC E 1 yX1_isGiven cX1_isGiven 1 (some .boolean) [rhI v0] Γ M ((rhe0I Γ M) a) := rhF.met (by decide +kernel) (Nat.le_of_ble_eq_true rfl) (b_X1_isGiven v0)
def f_X1_joined (Γ : rhG) (M : rhM) (v0 : Int32) (v1 : Int32) (v2 : Int32) : Option (Int32) :=
  if v0 = 11 then
    (if v1 = 0 then
      (some 0)
    else
      if v2 = 0 then
        (some 0)
      else
        some 1)
  else
  if v0 = 42 then
    (some (v1 * v2))
  else
  if v0 = 43 then
    (some (v1 + v2))
  else
  if v0 = 45 then
    (some (v1 - v2))
  else
  if v0 = 47 then
    (if v2 = 0 then
      (some 0)
    else
      rhck (¬ v2 = 0) <|
      some (v1 / v2))
  else
  if v0 = 60 then
    (if v1 < v2 then
      (some 1)
    else
      some 0)
  else
  if v0 = 61 then
    (if v1 = v2 then
      (some 1)
    else
      some 0)
  else
  if v0 = 62 then
    (if v2 < v1 then
      (some 1)
    else
      some 0)
  else
  if v1 = 0 then
    (if v2 = 0 then
      (some 0)
    else
      some 1)
  else
    some 1
set_option maxHeartbeats 4000000 in
set_option maxRecDepth 100000 in
theorem b_X1_joined {E : rhE} {Γ : rhG} {M : rhM} : ∀ (v0 : Int32) (v1 : Int32) (v2 : Int32), rhF E 1 3 yX1_joined cX1_joined (some .int) Γ (rhe0I Γ M) (f_X1_joined Γ M v0 v1 v2) 0 [(0, rhI v0), (1, rhI v1), (2, rhI v2)] [] Γ M := by
  intro v0 v1 v2
  rw [f_X1_joined]
  refine rhF.iload_n (pc := 0) dX1_joined_0 0 rfl ?_
  refine rhF.ite (fun h1 => ?_) (fun h1 => ?_)
  · refine rhF.ls (pc := 1) 133 dX1_joined_1 (by decide) (by rw [h1] <;> rfl) (by decide) ?_
    refine rhF.iload_n (pc := 133) dX1_joined_133 1 rfl ?_
    refine rhF.if_eq (pc := 134) 145 dX1_joined_134 (by decide) (fun h2 => ?_) (fun h2 => ?_)
    · refine rhF.iconst (pc := 145) (v := 0) dX1_joined_145 (by decide) ?_
      exact rhF.zret (pc := 146) dX1_joined_146 rfl rfl rfl
    · refine rhF.iload_n (pc := 137) dX1_joined_137 2 rfl ?_
      refine rhF.if_eq (pc := 138) 145 dX1_joined_138 (by decide) (fun h3 => ?_) (fun h3 => ?_)
      · refine rhF.iconst (pc := 145) (v := 0) dX1_joined_145 (by decide) ?_
        exact rhF.zret (pc := 146) dX1_joined_146 rfl rfl rfl
      · refine rhF.iconst (pc := 141) (v := 1) dX1_joined_141 (by decide) ?_
        refine rhF.goto (pc := 142) 146 dX1_joined_142 (by decide) ?_
        exact rhF.zret (pc := 146) dX1_joined_146 rfl rfl rfl
  · skip
    refine rhF.ite (fun h4 => ?_) (fun h4 => ?_)
    · refine rhF.ls (pc := 1) 84 dX1_joined_1 (by decide) (by rw [h4] <;> rfl) (by decide) ?_
      refine rhF.iload_n (pc := 84) dX1_joined_84 1 rfl ?_
      refine rhF.iload_n (pc := 85) dX1_joined_85 2 rfl ?_
      refine rhF.imul (pc := 86) dX1_joined_86 ?_
      exact rhF.zret (pc := 87) dX1_joined_87 rfl rfl rfl
    · skip
      refine rhF.ite (fun h5 => ?_) (fun h5 => ?_)
      · refine rhF.ls (pc := 1) 76 dX1_joined_1 (by decide) (by rw [h5] <;> rfl) (by decide) ?_
        refine rhF.iload_n (pc := 76) dX1_joined_76 1 rfl ?_
        refine rhF.iload_n (pc := 77) dX1_joined_77 2 rfl ?_
        refine rhF.iadd (pc := 78) dX1_joined_78 ?_
        exact rhF.zret (pc := 79) dX1_joined_79 rfl rfl rfl
      · skip
        refine rhF.ite (fun h6 => ?_) (fun h6 => ?_)
        · refine rhF.ls (pc := 1) 80 dX1_joined_1 (by decide) (by rw [h6] <;> rfl) (by decide) ?_
          refine rhF.iload_n (pc := 80) dX1_joined_80 1 rfl ?_
          refine rhF.iload_n (pc := 81) dX1_joined_81 2 rfl ?_
          refine rhF.isub (pc := 82) dX1_joined_82 ?_
          exact rhF.zret (pc := 83) dX1_joined_83 rfl rfl rfl
        · skip
          refine rhF.ite (fun h7 => ?_) (fun h7 => ?_)
          · refine rhF.ls (pc := 1) 88 dX1_joined_1 (by decide) (by rw [h7] <;> rfl) (by decide) ?_
            refine rhF.iload_n (pc := 88) dX1_joined_88 2 rfl ?_
            refine rhF.if_ne (pc := 89) 96 dX1_joined_89 (by decide) (fun h8 => ?_) (fun h8 => ?_)
            · refine rhF.iconst (pc := 92) (v := 0) dX1_joined_92 (by decide) ?_
              refine rhF.goto (pc := 93) 99 dX1_joined_93 (by decide) ?_
              exact rhF.zret (pc := 99) dX1_joined_99 rfl rfl rfl
            · refine rhF.iload_n (pc := 96) dX1_joined_96 1 rfl ?_
              refine rhF.iload_n (pc := 97) dX1_joined_97 2 rfl ?_
              refine rhF.ck (fun h9 => ?_)
              refine rhF.idivc (pc := 98) dX1_joined_98 h9 ?_
              exact rhF.zret (pc := 99) dX1_joined_99 rfl rfl rfl
          · skip
            refine rhF.ite (fun h10 => ?_) (fun h10 => ?_)
            · refine rhF.ls (pc := 1) 100 dX1_joined_1 (by decide) (by rw [h10] <;> rfl) (by decide) ?_
              refine rhF.iload_n (pc := 100) dX1_joined_100 1 rfl ?_
              refine rhF.iload_n (pc := 101) dX1_joined_101 2 rfl ?_
              refine rhF.icmp_ge (pc := 102) 109 dX1_joined_102 (by decide) (fun h11 => ?_) (fun h11 => ?_)
              · refine rhF.iconst (pc := 105) (v := 1) dX1_joined_105 (by decide) ?_
                refine rhF.goto (pc := 106) 110 dX1_joined_106 (by decide) ?_
                exact rhF.zret (pc := 110) dX1_joined_110 rfl rfl rfl
              · refine rhF.iconst (pc := 109) (v := 0) dX1_joined_109 (by decide) ?_
                exact rhF.zret (pc := 110) dX1_joined_110 rfl rfl rfl
            · skip
              refine rhF.ite (fun h12 => ?_) (fun h12 => ?_)
              · refine rhF.ls (pc := 1) 122 dX1_joined_1 (by decide) (by rw [h12] <;> rfl) (by decide) ?_
                refine rhF.iload_n (pc := 122) dX1_joined_122 1 rfl ?_
                refine rhF.iload_n (pc := 123) dX1_joined_123 2 rfl ?_
                refine rhF.icmp_ne (pc := 124) 131 dX1_joined_124 (by decide) (fun h13 => ?_) (fun h13 => ?_)
                · refine rhF.iconst (pc := 127) (v := 1) dX1_joined_127 (by decide) ?_
                  refine rhF.goto (pc := 128) 132 dX1_joined_128 (by decide) ?_
                  exact rhF.zret (pc := 132) dX1_joined_132 rfl rfl rfl
                · refine rhF.iconst (pc := 131) (v := 0) dX1_joined_131 (by decide) ?_
                  exact rhF.zret (pc := 132) dX1_joined_132 rfl rfl rfl
              · skip
                refine rhF.ite (fun h14 => ?_) (fun h14 => ?_)
                · refine rhF.ls (pc := 1) 111 dX1_joined_1 (by decide) (by rw [h14] <;> rfl) (by decide) ?_
                  refine rhF.iload_n (pc := 111) dX1_joined_111 1 rfl ?_
                  refine rhF.iload_n (pc := 112) dX1_joined_112 2 rfl ?_
                  refine rhF.icmp_le (pc := 113) 120 dX1_joined_113 (by decide) (fun h15 => ?_) (fun h15 => ?_)
                  · refine rhF.iconst (pc := 116) (v := 1) dX1_joined_116 (by decide) ?_
                    refine rhF.goto (pc := 117) 121 dX1_joined_117 (by decide) ?_
                    exact rhF.zret (pc := 121) dX1_joined_121 rfl rfl rfl
                  · refine rhF.iconst (pc := 120) (v := 0) dX1_joined_120 (by decide) ?_
                    exact rhF.zret (pc := 121) dX1_joined_121 rfl rfl rfl
                · skip
                  refine rhF.ls (pc := 1) 147 dX1_joined_1 (by decide) (rhlkd _ _ _ (List.forall_mem_cons.mpr ⟨rhne h1 (n := 11) (by decide), List.forall_mem_cons.mpr ⟨rhne h4 (n := 42) (by decide), List.forall_mem_cons.mpr ⟨rhne h5 (n := 43) (by decide), List.forall_mem_cons.mpr ⟨rhne h6 (n := 45) (by decide), List.forall_mem_cons.mpr ⟨rhne h7 (n := 47) (by decide), List.forall_mem_cons.mpr ⟨rhne h10 (n := 60) (by decide), List.forall_mem_cons.mpr ⟨rhne h12 (n := 61) (by decide), List.forall_mem_cons.mpr ⟨rhne h14 (n := 62) (by decide), fun _ h => absurd h List.not_mem_nil⟩⟩⟩⟩⟩⟩⟩⟩)) (by decide) ?_
                  refine rhF.iload_n (pc := 147) dX1_joined_147 1 rfl ?_
                  refine rhF.if_ne (pc := 148) 155 dX1_joined_148 (by decide) (fun h16 => ?_) (fun h16 => ?_)
                  · refine rhF.iload_n (pc := 151) dX1_joined_151 2 rfl ?_
                    refine rhF.if_eq (pc := 152) 159 dX1_joined_152 (by decide) (fun h17 => ?_) (fun h17 => ?_)
                    · refine rhF.iconst (pc := 159) (v := 0) dX1_joined_159 (by decide) ?_
                      exact rhF.zret (pc := 160) dX1_joined_160 rfl rfl rfl
                    · refine rhF.iconst (pc := 155) (v := 1) dX1_joined_155 (by decide) ?_
                      refine rhF.goto (pc := 156) 160 dX1_joined_156 (by decide) ?_
                      exact rhF.zret (pc := 160) dX1_joined_160 rfl rfl rfl
                  · refine rhF.iconst (pc := 155) (v := 1) dX1_joined_155 (by decide) ?_
                    refine rhF.goto (pc := 156) 160 dX1_joined_156 (by decide) ?_
                    exact rhF.zret (pc := 160) dX1_joined_160 rfl rfl rfl
theorem c_X1_joined (E : rhE) (Γ : rhG) (M : rhM) (v0 : Int32) (v1 : Int32) (v2 : Int32) : ∀ a, f_X1_joined Γ M v0 v1 v2 = some a → rhC E 1 yX1_joined cX1_joined 3 (some .int) [rhI v0, rhI v1, rhI v2] Γ M ((rhe0I Γ M) a) := rhF.met (by decide +kernel) (Nat.le_of_ble_eq_true rfl) (b_X1_joined v0 v1 v2)
def f_X1_comesTo_260 (k69 : rhM → Nat → Int32 → Int32 → Int32 → Option (Int32 × rhM)) (Γ : rhG) (M : rhM) (v0 : Nat) (v2 : Int32) (v7 : Int32) (v8 : Int32) : Option (Int32 × rhM) :=
  let x30 : Int32 := v8 + 1
  k69 M v0 v2 v7 x30
def f_X1_comesTo_217 (k260 : rhM → Nat → Int32 → Int32 → Int32 → Option (Int32 × rhM)) (Γ : rhG) (M : rhM) (v0 : Nat) (v2 : Int32) (v7 : Int32) (v8 : Int32) (s0 : Nat) (s1 : Int32) (s2 : Int32) : Option (Int32 × rhM) :=
  rhck (Γ.2.2.1 s0 = 15) <|
  rhck (0 ≤ (s1).toInt ∧ (s1).toInt < (Γ.2.2.2 s0 : Nat)) <|
  let M47 := rhsi M s0 (s1 : Int32).toNatClampNeg s2
  k260 M47 v0 v2 v7 v8
def f_X1_comesTo_221 (k260 : rhM → Nat → Int32 → Int32 → Int32 → Option (Int32 × rhM)) (Γ : rhG) (M : rhM) (v0 : Nat) (v2 : Int32) (v7 : Int32) (v8 : Int32) (v9 : Int32) : Option (Int32 × rhM) :=
  if 1 < v7 then
    (let x49 : Int32 := v7 + (-1)
    rhck (Γ.2.2.1 v0 = 2) <|
    rhck (Γ.2.2.1 (M.2.2 v0 4) = 15) <|
    rhck (0 ≤ (x49 - 1).toInt ∧ (x49 - 1).toInt < (Γ.2.2.2 (M.2.2 v0 4) : Nat)) <|
    rhck (0 ≤ (x49).toInt ∧ (x49).toInt < (Γ.2.2.2 (M.2.2 v0 4) : Nat)) <|
    (f_X1_joined Γ M v9 (M.1 (M.2.2 v0 4) (x49 - 1).toNatClampNeg) (M.1 (M.2.2 v0 4) x49.toNatClampNeg)).bind fun r54 =>
    let M55 := rhsi M (M.2.2 v0 4) (x49 - 1 : Int32).toNatClampNeg r54
    k260 M55 v0 v2 x49 v8)
  else
    k260 M v0 v2 v7 v8
def f_X1_comesTo_69 (Γ : rhG) : Nat → rhM → Nat → Int32 → Int32 → Int32 → Option (Int32 × rhM)
  | 0, _, _, _, _, _ => none
  | n + 1, M, v0, v2, v7, v8 =>
    rhck (Γ.2.2.1 v0 = 2) <|
    if v8 < (M.1 v0 1) then
      (if v7 < 64 then
        (rhck (Γ.2.2.1 (M.2.2 v0 2) = 15) <|
        rhck (0 ≤ (v8).toInt ∧ (v8).toInt < (Γ.2.2.2 (M.2.2 v0 2) : Nat)) <|
        let x22 := M.1 (M.2.2 v0 2) v8.toNatClampNeg
        if x22 = 48 then
          (rhck (Γ.2.2.1 (M.2.2 v0 3) = 15) <|
          rhck (0 ≤ (v8).toInt ∧ (v8).toInt < (Γ.2.2.2 (M.2.2 v0 3) : Nat)) <|
          rhck (Γ.2.2.1 (M.2.2 v0 4) = 15) <|
          rhck (0 ≤ (v7).toInt ∧ (v7).toInt < (Γ.2.2.2 (M.2.2 v0 4) : Nat)) <|
          let M28 := rhsi M (M.2.2 v0 4) (v7 : Int32).toNatClampNeg (M.1 (M.2.2 v0 3) v8.toNatClampNeg)
          let x29 : Int32 := v7 + 1
          f_X1_comesTo_260 (f_X1_comesTo_69 Γ n) Γ M28 v0 v2 x29 v8)
        else
          if x22 = 17 then
            (rhck (Γ.2.2.1 (M.2.2 v0 3) = 15) <|
            rhck (0 ≤ (v8).toInt ∧ (v8).toInt < (Γ.2.2.2 (M.2.2 v0 3) : Nat)) <|
            rhck (Γ.2.2.1 (M.2.2 v0 4) = 15) <|
            rhck (0 ≤ (v7).toInt ∧ (v7).toInt < (Γ.2.2.2 (M.2.2 v0 4) : Nat)) <|
            let M36 := rhsi M (M.2.2 v0 4) (v7 : Int32).toNatClampNeg ((rhus v2 (M.1 (M.2.2 v0 3) v8.toNatClampNeg)) &&& 1)
            let x37 : Int32 := v7 + 1
            f_X1_comesTo_260 (f_X1_comesTo_69 Γ n) Γ M36 v0 v2 x37 v8)
          else
            (f_X1_isGiven Γ M x22).bind fun r38 =>
            if r38 = 0 then
              (if x22 = 12 then
                (if 0 < v7 then
                  (rhck (Γ.2.2.1 (M.2.2 v0 4) = 15) <|
                  rhck (0 ≤ (v7 - 1).toInt ∧ (v7 - 1).toInt < (Γ.2.2.2 (M.2.2 v0 4) : Nat)) <|
                  if (M.1 (M.2.2 v0 4) (v7 - 1).toNatClampNeg) = 0 then
                    (f_X1_comesTo_217 (f_X1_comesTo_260 (f_X1_comesTo_69 Γ n) Γ) Γ M v0 v2 v7 v8 (M.2.2 v0 4) (v7 - 1) 1)
                  else
                    f_X1_comesTo_217 (f_X1_comesTo_260 (f_X1_comesTo_69 Γ n) Γ) Γ M v0 v2 v7 v8 (M.2.2 v0 4) (v7 - 1) 0)
                else
                  f_X1_comesTo_221 (f_X1_comesTo_260 (f_X1_comesTo_69 Γ n) Γ) Γ M v0 v2 v7 v8 x22)
              else
                f_X1_comesTo_221 (f_X1_comesTo_260 (f_X1_comesTo_69 Γ n) Γ) Γ M v0 v2 v7 v8 x22)
            else
              rhck (Γ.2.2.1 (M.2.2 v0 5) = 15) <|
              rhck (0 ≤ (x22).toInt ∧ (x22).toInt < (Γ.2.2.2 (M.2.2 v0 5) : Nat)) <|
              rhck (Γ.2.2.1 (M.2.2 v0 4) = 15) <|
              rhck (0 ≤ (v7).toInt ∧ (v7).toInt < (Γ.2.2.2 (M.2.2 v0 4) : Nat)) <|
              let M60 := rhsi M (M.2.2 v0 4) (v7 : Int32).toNatClampNeg (M.1 (M.2.2 v0 5) x22.toNatClampNeg)
              let x61 : Int32 := v7 + 1
              f_X1_comesTo_260 (f_X1_comesTo_69 Γ n) Γ M60 v0 v2 x61 v8)
      else
        rhck (Γ.2.2.1 (M.2.2 v0 4) = 15) <|
        rhck (0 ≤ (0 : Int32).toInt ∧ (0 : Int32).toInt < (Γ.2.2.2 (M.2.2 v0 4) : Nat)) <|
        some ((M.1 (M.2.2 v0 4) (0 : Int32).toNatClampNeg, M)))
    else
      rhck (Γ.2.2.1 (M.2.2 v0 4) = 15) <|
      rhck (0 ≤ (0 : Int32).toInt ∧ (0 : Int32).toInt < (Γ.2.2.2 (M.2.2 v0 4) : Nat)) <|
      some ((M.1 (M.2.2 v0 4) (0 : Int32).toNatClampNeg, M))
def f_X1_comesTo (Γ : rhG) (M : rhM) (v0 : Nat) (v1 : Int32) (v2 : Int32) (v3 : Int32) (v4 : Int32) (v5 : Int32) (v6 : Int32) : Option (Int32 × rhM) :=
  rhck (Γ.2.2.1 v0 = 2) <|
  if (M.1 v0 1) = 0 then
    (some ((1, M)))
  else
    rhck (Γ.2.2.1 (M.2.2 v0 5) = 15) <|
    rhck (0 ≤ (14 : Int32).toInt ∧ (14 : Int32).toInt < (Γ.2.2.2 (M.2.2 v0 5) : Nat)) <|
    let M5 := rhsi M (M.2.2 v0 5) (14 : Int32).toNatClampNeg v1
    rhck (0 ≤ (15 : Int32).toInt ∧ (15 : Int32).toInt < (Γ.2.2.2 (M.2.2 v0 5) : Nat)) <|
    let M7 := rhsi M5 (M.2.2 v0 5) (15 : Int32).toNatClampNeg v3
    rhck (0 ≤ (16 : Int32).toInt ∧ (16 : Int32).toInt < (Γ.2.2.2 (M.2.2 v0 5) : Nat)) <|
    let M9 := rhsi M7 (M.2.2 v0 5) (16 : Int32).toNatClampNeg v4
    (f_J6_bitCount_0f7a4 Γ M9 v2).bind fun r10 =>
    rhck (0 ≤ (13 : Int32).toInt ∧ (13 : Int32).toInt < (Γ.2.2.2 (M.2.2 v0 5) : Nat)) <|
    let M12 := rhsi M9 (M.2.2 v0 5) (13 : Int32).toNatClampNeg r10
    rhck (0 ≤ (7 : Int32).toInt ∧ (7 : Int32).toInt < (Γ.2.2.2 (M.2.2 v0 5) : Nat)) <|
    let M14 := rhsi M12 (M.2.2 v0 5) (7 : Int32).toNatClampNeg v5
    rhck (0 ≤ (6 : Int32).toInt ∧ (6 : Int32).toInt < (Γ.2.2.2 (M.2.2 v0 5) : Nat)) <|
    let M16 := rhsi M14 (M.2.2 v0 5) (6 : Int32).toNatClampNeg v6
    f_X1_comesTo_69 Γ rhFU M16 v0 v2 0 0
set_option maxHeartbeats 4000000 in
set_option maxRecDepth 100000 in
theorem b_X1_comesTo_260 {E : rhE} {Γ : rhG} {k69 : rhM → Nat → Int32 → Int32 → Int32 → Option (Int32 × rhM)} (hk69 : ∀ (M : rhM) (v0 : Nat) (v2 : Int32) (v7 : Int32) (v8 : Int32), rhF E 5 10 yX1_comesTo cX1_comesTo (some .int) Γ (rhe1I Γ) (k69 M v0 v2 v7 v8) 69 [(0, rhR v0), (2, rhI v2), (7, rhI v7), (8, rhI v8)] [] Γ M) : ∀ (M : rhM) (v0 : Nat) (v2 : Int32) (v7 : Int32) (v8 : Int32), rhF E 5 10 yX1_comesTo cX1_comesTo (some .int) Γ (rhe1I Γ) (f_X1_comesTo_260 k69 Γ M v0 v2 v7 v8) 260 [(0, rhR v0), (2, rhI v2), (7, rhI v7), (8, rhI v8)] [] Γ M := by
  intro M v0 v2 v7 v8
  rw [f_X1_comesTo_260]
  refine rhF.iinc (pc := 260) (L' := [(8, rhI _), (0, rhR _), (2, rhI _), (7, rhI _)]) dX1_comesTo_260 3 rfl rfl (by decide) rfl ?_
  refine rhF.goto (pc := 263) 69 dX1_comesTo_263 (by decide) ?_
  refine rhF.sub [1, 2, 3, 0] rfl ?_
  exact hk69 _ _ _ _ _
set_option maxHeartbeats 4000000 in
set_option maxRecDepth 100000 in
theorem b_X1_comesTo_217 {E : rhE} {Γ : rhG} {k260 : rhM → Nat → Int32 → Int32 → Int32 → Option (Int32 × rhM)} (hk260 : ∀ (M : rhM) (v0 : Nat) (v2 : Int32) (v7 : Int32) (v8 : Int32), rhF E 5 10 yX1_comesTo cX1_comesTo (some .int) Γ (rhe1I Γ) (k260 M v0 v2 v7 v8) 260 [(0, rhR v0), (2, rhI v2), (7, rhI v7), (8, rhI v8)] [] Γ M) : ∀ (M : rhM) (v0 : Nat) (v2 : Int32) (v7 : Int32) (v8 : Int32) (s0 : Nat) (s1 : Int32) (s2 : Int32), rhF E 5 10 yX1_comesTo cX1_comesTo (some .int) Γ (rhe1I Γ) (f_X1_comesTo_217 k260 Γ M v0 v2 v7 v8 s0 s1 s2) 217 [(0, rhR v0), (2, rhI v2), (7, rhI v7), (8, rhI v8)] [rhI s2, rhI s1, rhR s0] Γ M := by
  intro M v0 v2 v7 v8 s0 s1 s2
  rw [f_X1_comesTo_217]
  refine rhF.ck (fun h45 => ?_)
  refine rhF.ck (fun h46 => ?_)
  refine rhF.iast (pc := 217) dX1_comesTo_217 h45 h46 ?_
  refine rhF.goto (pc := 218) 260 dX1_comesTo_218 (by decide) ?_
  exact hk260 _ _ _ _ _
set_option maxHeartbeats 4000000 in
set_option maxRecDepth 100000 in
theorem b_X1_comesTo_221 {E : rhE} {Γ : rhG} {k260 : rhM → Nat → Int32 → Int32 → Int32 → Option (Int32 × rhM)} (hk260 : ∀ (M : rhM) (v0 : Nat) (v2 : Int32) (v7 : Int32) (v8 : Int32), rhF E 5 10 yX1_comesTo cX1_comesTo (some .int) Γ (rhe1I Γ) (k260 M v0 v2 v7 v8) 260 [(0, rhR v0), (2, rhI v2), (7, rhI v7), (8, rhI v8)] [] Γ M) : ∀ (M : rhM) (v0 : Nat) (v2 : Int32) (v7 : Int32) (v8 : Int32) (v9 : Int32), rhF E 5 10 yX1_comesTo cX1_comesTo (some .int) Γ (rhe1I Γ) (f_X1_comesTo_221 k260 Γ M v0 v2 v7 v8 v9) 221 [(0, rhR v0), (2, rhI v2), (7, rhI v7), (8, rhI v8), (9, rhI v9)] [] Γ M := by
  intro M v0 v2 v7 v8 v9
  rw [f_X1_comesTo_221]
  refine rhF.iload (pc := 221) dX1_comesTo_221 2 rfl ?_
  refine rhF.iconst (pc := 223) (v := 1) dX1_comesTo_223 (by decide) ?_
  refine rhF.icmp_le (pc := 224) 260 dX1_comesTo_224 (by decide) (fun h48 => ?_) (fun h48 => ?_)
  · refine rhF.iinc (pc := 227) (L' := [(7, rhI _), (0, rhR _), (2, rhI _), (8, rhI _), (9, rhI _)]) dX1_comesTo_227 2 rfl rfl (by decide) rfl ?_
    refine rhF.aload_n (pc := 230) dX1_comesTo_230 1 rfl ?_
    refine rhF.ck (fun h50 => ?_)
    refine rhF.get (pc := 231) (rhR _) dX1_comesTo_231 fl_X1_16 h50 rfl ?_
    refine rhF.iload (pc := 234) dX1_comesTo_234 0 rfl ?_
    refine rhF.iconst (pc := 236) (v := 1) dX1_comesTo_236 (by decide) ?_
    refine rhF.isub (pc := 237) dX1_comesTo_237 ?_
    refine rhF.iload (pc := 238) dX1_comesTo_238 4 rfl ?_
    refine rhF.aload_n (pc := 240) dX1_comesTo_240 1 rfl ?_
    refine rhF.get (pc := 241) (rhR _) dX1_comesTo_241 fl_X1_16 h50 rfl ?_
    refine rhF.iload (pc := 244) dX1_comesTo_244 0 rfl ?_
    refine rhF.iconst (pc := 246) (v := 1) dX1_comesTo_246 (by decide) ?_
    refine rhF.isub (pc := 247) dX1_comesTo_247 ?_
    refine rhF.ck (fun h51 => ?_)
    refine rhF.ck (fun h52 => ?_)
    refine rhF.iald (pc := 248) dX1_comesTo_248 h51 h52 ?_
    refine rhF.aload_n (pc := 249) dX1_comesTo_249 1 rfl ?_
    refine rhF.get (pc := 250) (rhR _) dX1_comesTo_250 fl_X1_16 h50 rfl ?_
    refine rhF.iload (pc := 253) dX1_comesTo_253 0 rfl ?_
    refine rhF.ck (fun h53 => ?_)
    refine rhF.iald (pc := 255) dX1_comesTo_255 h51 h53 ?_
    refine rhF.callS (pc := 256) (embc := rhe0I _ _) [rhI _, rhI _, rhI _] dX1_comesTo_256 ml_X1_45 ms_X1_joined (c_X1_joined _ _ _ _ _ _) (by decide) (by decide) rfl (Nat.le_of_ble_eq_true rfl) (fun r54 _ => ?_)
    refine rhF.iast (pc := 259) dX1_comesTo_259 h51 h52 ?_
    refine rhF.sub [1, 2, 0, 3] rfl ?_
    exact hk260 _ _ _ _ _
  · refine rhF.sub [0, 1, 2, 3] rfl ?_
    exact hk260 _ _ _ _ _
set_option maxHeartbeats 4000000 in
set_option maxRecDepth 100000 in
theorem b_X1_comesTo_69 {E : rhE} {Γ : rhG} : ∀ (n : Nat) (M : rhM) (v0 : Nat) (v2 : Int32) (v7 : Int32) (v8 : Int32), rhF E 5 10 yX1_comesTo cX1_comesTo (some .int) Γ (rhe1I Γ) (f_X1_comesTo_69 Γ n M v0 v2 v7 v8) 69 [(0, rhR v0), (2, rhI v2), (7, rhI v7), (8, rhI v8)] [] Γ M := by
  intro n
  induction n with
  | zero => intro M v0 v2 v7 v8; rw [f_X1_comesTo_69]; exact rhF.nope
  | succ n ih =>
    intro M v0 v2 v7 v8
    rw [f_X1_comesTo_69]
    refine rhF.iload (pc := 69) dX1_comesTo_69 3 rfl ?_
    refine rhF.aload_n (pc := 71) dX1_comesTo_71 0 rfl ?_
    refine rhF.ck (fun h17 => ?_)
    refine rhF.get (pc := 72) (rhI _) dX1_comesTo_72 fl_X1_28 h17 rfl ?_
    refine rhF.icmp_ge (pc := 75) 266 dX1_comesTo_75 (by decide) (fun h18 => ?_) (fun h18 => ?_)
    · refine rhF.iload (pc := 78) dX1_comesTo_78 2 rfl ?_
      refine rhF.bipush (pc := 80) (v := 64) dX1_comesTo_80 (by decide) ?_
      refine rhF.icmp_ge (pc := 82) 266 dX1_comesTo_82 (by decide) (fun h19 => ?_) (fun h19 => ?_)
      · refine rhF.aload_n (pc := 85) dX1_comesTo_85 0 rfl ?_
        refine rhF.get (pc := 86) (rhR _) dX1_comesTo_86 fl_X1_9 h17 rfl ?_
        refine rhF.iload (pc := 89) dX1_comesTo_89 3 rfl ?_
        refine rhF.ck (fun h20 => ?_)
        refine rhF.ck (fun h21 => ?_)
        refine rhF.iald (pc := 91) dX1_comesTo_91 h20 h21 ?_
        refine rhF.istore (pc := 92) (L' := [(9, rhI _), (0, rhR _), (2, rhI _), (7, rhI _), (8, rhI _)]) dX1_comesTo_92 (by decide) rfl ?_
        refine rhF.iload (pc := 94) dX1_comesTo_94 0 rfl ?_
        refine rhF.bipush (pc := 96) (v := 48) dX1_comesTo_96 (by decide) ?_
        refine rhF.icmp_ne (pc := 98) 121 dX1_comesTo_98 (by decide) (fun h23 => ?_) (fun h23 => ?_)
        · refine rhF.aload_n (pc := 101) dX1_comesTo_101 1 rfl ?_
          refine rhF.get (pc := 102) (rhR _) dX1_comesTo_102 fl_X1_16 h17 rfl ?_
          refine rhF.iload (pc := 105) dX1_comesTo_105 3 rfl ?_
          refine rhF.aload_n (pc := 107) dX1_comesTo_107 1 rfl ?_
          refine rhF.get (pc := 108) (rhR _) dX1_comesTo_108 fl_X1_13 h17 rfl ?_
          refine rhF.iload (pc := 111) dX1_comesTo_111 4 rfl ?_
          refine rhF.ck (fun h24 => ?_)
          refine rhF.ck (fun h25 => ?_)
          refine rhF.iald (pc := 113) dX1_comesTo_113 h24 h25 ?_
          refine rhF.ck (fun h26 => ?_)
          refine rhF.ck (fun h27 => ?_)
          refine rhF.iast (pc := 114) dX1_comesTo_114 h26 h27 ?_
          refine rhF.iinc (pc := 115) (L' := [(7, rhI _), (9, rhI _), (0, rhR _), (2, rhI _), (8, rhI _)]) dX1_comesTo_115 3 rfl rfl (by decide) rfl ?_
          refine rhF.goto (pc := 118) 260 dX1_comesTo_118 (by decide) ?_
          refine rhF.sub [2, 3, 0, 4] rfl ?_
          exact (b_X1_comesTo_260 ih) _ _ _ _ _
        · refine rhF.iload (pc := 121) dX1_comesTo_121 0 rfl ?_
          refine rhF.bipush (pc := 123) (v := 17) dX1_comesTo_123 (by decide) ?_
          refine rhF.icmp_ne (pc := 125) 152 dX1_comesTo_125 (by decide) (fun h31 => ?_) (fun h31 => ?_)
          · refine rhF.aload_n (pc := 128) dX1_comesTo_128 1 rfl ?_
            refine rhF.get (pc := 129) (rhR _) dX1_comesTo_129 fl_X1_16 h17 rfl ?_
            refine rhF.iload (pc := 132) dX1_comesTo_132 3 rfl ?_
            refine rhF.iload_n (pc := 134) dX1_comesTo_134 2 rfl ?_
            refine rhF.aload_n (pc := 135) dX1_comesTo_135 1 rfl ?_
            refine rhF.get (pc := 136) (rhR _) dX1_comesTo_136 fl_X1_13 h17 rfl ?_
            refine rhF.iload (pc := 139) dX1_comesTo_139 4 rfl ?_
            refine rhF.ck (fun h32 => ?_)
            refine rhF.ck (fun h33 => ?_)
            refine rhF.iald (pc := 141) dX1_comesTo_141 h32 h33 ?_
            refine rhF.iushr (pc := 142) dX1_comesTo_142 ?_
            refine rhF.iconst (pc := 143) (v := 1) dX1_comesTo_143 (by decide) ?_
            refine rhF.iand (pc := 144) dX1_comesTo_144 ?_
            refine rhF.ck (fun h34 => ?_)
            refine rhF.ck (fun h35 => ?_)
            refine rhF.iast (pc := 145) dX1_comesTo_145 h34 h35 ?_
            refine rhF.iinc (pc := 146) (L' := [(7, rhI _), (9, rhI _), (0, rhR _), (2, rhI _), (8, rhI _)]) dX1_comesTo_146 3 rfl rfl (by decide) rfl ?_
            refine rhF.goto (pc := 149) 260 dX1_comesTo_149 (by decide) ?_
            refine rhF.sub [2, 3, 0, 4] rfl ?_
            exact (b_X1_comesTo_260 ih) _ _ _ _ _
          · refine rhF.iload (pc := 152) dX1_comesTo_152 0 rfl ?_
            refine rhF.callS (pc := 154) (embc := rhe0I _ _) [rhI _] dX1_comesTo_154 ml_X1_41 ms_X1_isGiven (c_X1_isGiven _ _ _ _) (by decide) (by decide) rfl (Nat.le_of_ble_eq_true rfl) (fun r38 _ => ?_)
            refine rhF.if_eq (pc := 157) 180 dX1_comesTo_157 (by decide) (fun h39 => ?_) (fun h39 => ?_)
            · refine rhF.iload (pc := 180) dX1_comesTo_180 0 rfl ?_
              refine rhF.bipush (pc := 182) (v := 12) dX1_comesTo_182 (by decide) ?_
              refine rhF.icmp_ne (pc := 184) 221 dX1_comesTo_184 (by decide) (fun h40 => ?_) (fun h40 => ?_)
              · refine rhF.iload (pc := 187) dX1_comesTo_187 3 rfl ?_
                refine rhF.if_le (pc := 189) 221 dX1_comesTo_189 (by decide) (fun h41 => ?_) (fun h41 => ?_)
                · refine rhF.aload_n (pc := 192) dX1_comesTo_192 1 rfl ?_
                  refine rhF.get (pc := 193) (rhR _) dX1_comesTo_193 fl_X1_16 h17 rfl ?_
                  refine rhF.iload (pc := 196) dX1_comesTo_196 3 rfl ?_
                  refine rhF.iconst (pc := 198) (v := 1) dX1_comesTo_198 (by decide) ?_
                  refine rhF.isub (pc := 199) dX1_comesTo_199 ?_
                  refine rhF.aload_n (pc := 200) dX1_comesTo_200 1 rfl ?_
                  refine rhF.get (pc := 201) (rhR _) dX1_comesTo_201 fl_X1_16 h17 rfl ?_
                  refine rhF.iload (pc := 204) dX1_comesTo_204 3 rfl ?_
                  refine rhF.iconst (pc := 206) (v := 1) dX1_comesTo_206 (by decide) ?_
                  refine rhF.isub (pc := 207) dX1_comesTo_207 ?_
                  refine rhF.ck (fun h42 => ?_)
                  refine rhF.ck (fun h43 => ?_)
                  refine rhF.iald (pc := 208) dX1_comesTo_208 h42 h43 ?_
                  refine rhF.if_ne (pc := 209) 216 dX1_comesTo_209 (by decide) (fun h44 => ?_) (fun h44 => ?_)
                  · refine rhF.iconst (pc := 212) (v := 1) dX1_comesTo_212 (by decide) ?_
                    refine rhF.goto (pc := 213) 217 dX1_comesTo_213 (by decide) ?_
                    refine rhF.sub [1, 2, 3, 4] rfl ?_
                    exact (b_X1_comesTo_217 (b_X1_comesTo_260 ih)) _ _ _ _ _ _ _ _
                  · refine rhF.iconst (pc := 216) (v := 0) dX1_comesTo_216 (by decide) ?_
                    refine rhF.sub [1, 2, 3, 4] rfl ?_
                    exact (b_X1_comesTo_217 (b_X1_comesTo_260 ih)) _ _ _ _ _ _ _ _
                · refine rhF.sub [1, 2, 3, 4, 0] rfl ?_
                  exact (b_X1_comesTo_221 (b_X1_comesTo_260 ih)) _ _ _ _ _ _
              · refine rhF.sub [1, 2, 3, 4, 0] rfl ?_
                exact (b_X1_comesTo_221 (b_X1_comesTo_260 ih)) _ _ _ _ _ _
            · refine rhF.aload_n (pc := 160) dX1_comesTo_160 1 rfl ?_
              refine rhF.get (pc := 161) (rhR _) dX1_comesTo_161 fl_X1_16 h17 rfl ?_
              refine rhF.iload (pc := 164) dX1_comesTo_164 3 rfl ?_
              refine rhF.aload_n (pc := 166) dX1_comesTo_166 1 rfl ?_
              refine rhF.get (pc := 167) (rhR _) dX1_comesTo_167 fl_X1_21 h17 rfl ?_
              refine rhF.iload (pc := 170) dX1_comesTo_170 0 rfl ?_
              refine rhF.ck (fun h56 => ?_)
              refine rhF.ck (fun h57 => ?_)
              refine rhF.iald (pc := 172) dX1_comesTo_172 h56 h57 ?_
              refine rhF.ck (fun h58 => ?_)
              refine rhF.ck (fun h59 => ?_)
              refine rhF.iast (pc := 173) dX1_comesTo_173 h58 h59 ?_
              refine rhF.iinc (pc := 174) (L' := [(7, rhI _), (9, rhI _), (0, rhR _), (2, rhI _), (8, rhI _)]) dX1_comesTo_174 3 rfl rfl (by decide) rfl ?_
              refine rhF.goto (pc := 177) 260 dX1_comesTo_177 (by decide) ?_
              refine rhF.sub [2, 3, 0, 4] rfl ?_
              exact (b_X1_comesTo_260 ih) _ _ _ _ _
      · refine rhF.aload_n (pc := 266) dX1_comesTo_266 0 rfl ?_
        refine rhF.get (pc := 267) (rhR _) dX1_comesTo_267 fl_X1_16 h17 rfl ?_
        refine rhF.iconst (pc := 270) (v := 0) dX1_comesTo_270 (by decide) ?_
        refine rhF.ck (fun h62 => ?_)
        refine rhF.ck (fun h63 => ?_)
        refine rhF.iald (pc := 271) dX1_comesTo_271 h62 h63 ?_
        exact rhF.zret (pc := 272) dX1_comesTo_272 rfl rfl rfl
    · refine rhF.aload_n (pc := 266) dX1_comesTo_266 0 rfl ?_
      refine rhF.get (pc := 267) (rhR _) dX1_comesTo_267 fl_X1_16 h17 rfl ?_
      refine rhF.iconst (pc := 270) (v := 0) dX1_comesTo_270 (by decide) ?_
      refine rhF.ck (fun h64 => ?_)
      refine rhF.ck (fun h65 => ?_)
      refine rhF.iald (pc := 271) dX1_comesTo_271 h64 h65 ?_
      exact rhF.zret (pc := 272) dX1_comesTo_272 rfl rfl rfl
set_option maxHeartbeats 4000000 in
set_option maxRecDepth 100000 in
theorem b_X1_comesTo {E : rhE} {Γ : rhG} : ∀ (M : rhM) (v0 : Nat) (v1 : Int32) (v2 : Int32) (v3 : Int32) (v4 : Int32) (v5 : Int32) (v6 : Int32), rhF E 5 10 yX1_comesTo cX1_comesTo (some .int) Γ (rhe1I Γ) (f_X1_comesTo Γ M v0 v1 v2 v3 v4 v5 v6) 0 [(0, rhR v0), (1, rhI v1), (2, rhI v2), (3, rhI v3), (4, rhI v4), (5, rhI v5), (6, rhI v6)] [] Γ M := by
  intro M v0 v1 v2 v3 v4 v5 v6
  rw [f_X1_comesTo]
  refine rhF.aload_n (pc := 0) dX1_comesTo_0 0 rfl ?_
  refine rhF.ck (fun h1 => ?_)
  refine rhF.get (pc := 1) (rhI _) dX1_comesTo_1 fl_X1_28 h1 rfl ?_
  refine rhF.if_ne (pc := 4) 9 dX1_comesTo_4 (by decide) (fun h2 => ?_) (fun h2 => ?_)
  · refine rhF.iconst (pc := 7) (v := 1) dX1_comesTo_7 (by decide) ?_
    exact rhF.zret (pc := 8) dX1_comesTo_8 rfl rfl rfl
  · refine rhF.aload_n (pc := 9) dX1_comesTo_9 0 rfl ?_
    refine rhF.get (pc := 10) (rhR _) dX1_comesTo_10 fl_X1_21 h1 rfl ?_
    refine rhF.bipush (pc := 13) (v := 14) dX1_comesTo_13 (by decide) ?_
    refine rhF.iload_n (pc := 15) dX1_comesTo_15 1 rfl ?_
    refine rhF.ck (fun h3 => ?_)
    refine rhF.ck (fun h4 => ?_)
    refine rhF.iast (pc := 16) dX1_comesTo_16 h3 h4 ?_
    refine rhF.aload_n (pc := 17) dX1_comesTo_17 0 rfl ?_
    refine rhF.get (pc := 18) (rhR _) dX1_comesTo_18 fl_X1_21 h1 rfl ?_
    refine rhF.bipush (pc := 21) (v := 15) dX1_comesTo_21 (by decide) ?_
    refine rhF.iload_n (pc := 23) dX1_comesTo_23 3 rfl ?_
    refine rhF.ck (fun h6 => ?_)
    refine rhF.iast (pc := 24) dX1_comesTo_24 h3 h6 ?_
    refine rhF.aload_n (pc := 25) dX1_comesTo_25 0 rfl ?_
    refine rhF.get (pc := 26) (rhR _) dX1_comesTo_26 fl_X1_21 h1 rfl ?_
    refine rhF.bipush (pc := 29) (v := 16) dX1_comesTo_29 (by decide) ?_
    refine rhF.iload (pc := 31) dX1_comesTo_31 4 rfl ?_
    refine rhF.ck (fun h8 => ?_)
    refine rhF.iast (pc := 33) dX1_comesTo_33 h3 h8 ?_
    refine rhF.aload_n (pc := 34) dX1_comesTo_34 0 rfl ?_
    refine rhF.get (pc := 35) (rhR _) dX1_comesTo_35 fl_X1_21 h1 rfl ?_
    refine rhF.bipush (pc := 38) (v := 13) dX1_comesTo_38 (by decide) ?_
    refine rhF.iload_n (pc := 40) dX1_comesTo_40 2 rfl ?_
    refine rhF.callS (pc := 41) (embc := rhe0I _ _) [rhI _] dX1_comesTo_41 ml_X1_35 ms_J6_bitCount_0f7a4 (c_J6_bitCount_0f7a4 _ _ _ _) (by decide) (by decide) rfl (Nat.le_of_ble_eq_true rfl) (fun r10 _ => ?_)
    refine rhF.ck (fun h11 => ?_)
    refine rhF.iast (pc := 44) dX1_comesTo_44 h3 h11 ?_
    refine rhF.aload_n (pc := 45) dX1_comesTo_45 0 rfl ?_
    refine rhF.get (pc := 46) (rhR _) dX1_comesTo_46 fl_X1_21 h1 rfl ?_
    refine rhF.bipush (pc := 49) (v := 7) dX1_comesTo_49 (by decide) ?_
    refine rhF.iload (pc := 51) dX1_comesTo_51 5 rfl ?_
    refine rhF.ck (fun h13 => ?_)
    refine rhF.iast (pc := 53) dX1_comesTo_53 h3 h13 ?_
    refine rhF.aload_n (pc := 54) dX1_comesTo_54 0 rfl ?_
    refine rhF.get (pc := 55) (rhR _) dX1_comesTo_55 fl_X1_21 h1 rfl ?_
    refine rhF.bipush (pc := 58) (v := 6) dX1_comesTo_58 (by decide) ?_
    refine rhF.iload (pc := 60) dX1_comesTo_60 6 rfl ?_
    refine rhF.ck (fun h15 => ?_)
    refine rhF.iast (pc := 62) dX1_comesTo_62 h3 h15 ?_
    refine rhF.iconst (pc := 63) (v := 0) dX1_comesTo_63 (by decide) ?_
    refine rhF.istore (pc := 64) (L' := [(7, rhI _), (0, rhR _), (1, rhI _), (2, rhI _), (3, rhI _), (4, rhI _), (5, rhI _), (6, rhI _)]) dX1_comesTo_64 (by decide) rfl ?_
    refine rhF.iconst (pc := 66) (v := 0) dX1_comesTo_66 (by decide) ?_
    refine rhF.istore (pc := 67) (L' := [(8, rhI _), (7, rhI _), (0, rhR _), (1, rhI _), (2, rhI _), (3, rhI _), (4, rhI _), (5, rhI _), (6, rhI _)]) dX1_comesTo_67 (by decide) rfl ?_
    refine rhF.sub [2, 4, 1, 0] rfl ?_
    exact (b_X1_comesTo_69 rhFU) _ _ _ _ _
theorem c_X1_comesTo (E : rhE) (Γ : rhG) (M : rhM) (v0 : Nat) (v1 : Int32) (v2 : Int32) (v3 : Int32) (v4 : Int32) (v5 : Int32) (v6 : Int32) : ∀ a, f_X1_comesTo Γ M v0 v1 v2 v3 v4 v5 v6 = some a → rhC E 5 yX1_comesTo cX1_comesTo 10 (some .int) [rhR v0, rhI v1, rhI v2, rhI v3, rhI v4, rhI v5, rhI v6] Γ M ((rhe1I Γ) a) := rhF.met (by decide +kernel) (Nat.le_of_ble_eq_true rfl) (b_X1_comesTo M v0 v1 v2 v3 v4 v5 v6)
def f_X1_init (Γ : rhG) (M : rhM) (v0 : Nat) : Option (rhG × rhM) :=
  rhck (Γ.2.2.1 v0 = 2) <|
  rhck (0 ≤ (512 : Int32).toInt ∧ (512 : Int32).toInt ≤ 67108864) <|
  let M4 := rhmn M (nu (Γ.1 + 1))
  let G3 := rhgn Γ 15 (512 : Int32).toNatClampNeg (512 : Int32).toNatClampNeg
  rhck (G3.2.2.1 v0 = 2) <|
  let M6 := rhsr M4 v0 2 ((nu (Γ.1 + 1)))
  rhck (0 ≤ (512 : Int32).toInt ∧ (512 : Int32).toInt ≤ 67108864) <|
  let M9 := rhmn M6 (nu (G3.1 + 1))
  let G8 := rhgn G3 15 (512 : Int32).toNatClampNeg (512 : Int32).toNatClampNeg
  rhck (G8.2.2.1 v0 = 2) <|
  let M11 := rhsr M9 v0 3 ((nu (G3.1 + 1)))
  rhck (0 ≤ (64 : Int32).toInt ∧ (64 : Int32).toInt ≤ 67108864) <|
  let M14 := rhmn M11 (nu (G8.1 + 1))
  let G13 := rhgn G8 15 (64 : Int32).toNatClampNeg (64 : Int32).toNatClampNeg
  rhck (G13.2.2.1 v0 = 2) <|
  let M16 := rhsr M14 v0 4 ((nu (G8.1 + 1)))
  rhck (0 ≤ (18 : Int32).toInt ∧ (18 : Int32).toInt ≤ 67108864) <|
  let M19 := rhmn M16 (nu (G13.1 + 1))
  let G18 := rhgn G13 15 (18 : Int32).toNatClampNeg (18 : Int32).toNatClampNeg
  rhck (G18.2.2.1 v0 = 2) <|
  let M21 := rhsr M19 v0 5 ((nu (G13.1 + 1)))
  some (G18, M21)
set_option maxHeartbeats 4000000 in
set_option maxRecDepth 100000 in
theorem b_X1_init {E : rhE} {Γ0 : rhG} : ∀ (Γ : rhG) (M : rhM) (v0 : Nat), rhF E 5 1 yX1_init cX1_init none Γ0 rhe2U (f_X1_init Γ M v0) 0 [(0, rhR v0)] [] Γ M := by
  intro Γ M v0
  rw [f_X1_init]
  refine rhF.aload_n (pc := 0) dX1_init_0 0 rfl ?_
  refine rhF.ck (fun h1 => ?_)
  refine rhF.objInit (pc := 1) dX1_init_1 oi_X1_1 (fun z => absurd (h1.symm.trans z) (by decide)) (by decide) (Nat.le_of_ble_eq_true rfl) ?_
  refine rhF.aload_n (pc := 4) dX1_init_4 0 rfl ?_
  refine rhF.sipush (pc := 5) (v := 512) dX1_init_5 (by decide) ?_
  refine rhF.ck (fun h2 => ?_)
  refine rhF.newI (pc := 8) dX1_init_8 ac_int h2 ?_
  refine rhF.ck (fun h5 => ?_)
  refine rhF.putr (pc := 10) dX1_init_10 fl_X1_9 h5 (fun q hq => by cases hq; exact Or.inr ⟨rfl, rfl, rfl⟩) (Or.inr ⟨_, rfl⟩) (fun _ => rfl) ?_
  refine rhF.aload_n (pc := 13) dX1_init_13 0 rfl ?_
  refine rhF.sipush (pc := 14) (v := 512) dX1_init_14 (by decide) ?_
  refine rhF.ck (fun h7 => ?_)
  refine rhF.newI (pc := 17) dX1_init_17 ac_int h7 ?_
  refine rhF.ck (fun h10 => ?_)
  refine rhF.putr (pc := 19) dX1_init_19 fl_X1_13 h10 (fun q hq => by cases hq; exact Or.inr ⟨rfl, rfl, rfl⟩) (Or.inr ⟨_, rfl⟩) (fun _ => rfl) ?_
  refine rhF.aload_n (pc := 22) dX1_init_22 0 rfl ?_
  refine rhF.bipush (pc := 23) (v := 64) dX1_init_23 (by decide) ?_
  refine rhF.ck (fun h12 => ?_)
  refine rhF.newI (pc := 25) dX1_init_25 ac_int h12 ?_
  refine rhF.ck (fun h15 => ?_)
  refine rhF.putr (pc := 27) dX1_init_27 fl_X1_16 h15 (fun q hq => by cases hq; exact Or.inr ⟨rfl, rfl, rfl⟩) (Or.inr ⟨_, rfl⟩) (fun _ => rfl) ?_
  refine rhF.aload_n (pc := 30) dX1_init_30 0 rfl ?_
  refine rhF.bipush (pc := 31) (v := 18) dX1_init_31 (by decide) ?_
  refine rhF.ck (fun h17 => ?_)
  refine rhF.newI (pc := 33) dX1_init_33 ac_int h17 ?_
  refine rhF.ck (fun h20 => ?_)
  refine rhF.putr (pc := 35) dX1_init_35 fl_X1_21 h20 (fun q hq => by cases hq; exact Or.inr ⟨rfl, rfl, rfl⟩) (Or.inr ⟨_, rfl⟩) (fun _ => rfl) ?_
  exact rhF.vret (pc := 38) dX1_init_38 rfl rfl
theorem c_X1_init (E : rhE) (Γ : rhG) (M : rhM) (v0 : Nat) : ∀ a, f_X1_init Γ M v0 = some a → rhC E 5 yX1_init cX1_init 1 none [rhR v0] Γ M (rhe2U a) := rhF.met (by decide +kernel) (Nat.le_of_ble_eq_true rfl) (b_X1_init (Γ0 := Γ) Γ M v0)
def f_X9_roomBeside (Γ : rhG) (M : rhM) (v0 : Nat) (v1 : Int32) (v2 : Int32) : Option (Int32) :=
  rhck (Γ.2.2.1 v0 = 10) <|
  rhck (Γ.2.2.1 (M.2.2 v0 6) = 15) <|
  rhck (0 ≤ (v1).toInt ∧ (v1).toInt < (Γ.2.2.2 (M.2.2 v0 6) : Nat)) <|
  rhck (Γ.2.2.1 (M.2.2 v0 7) = 15) <|
  rhck (0 ≤ (v2).toInt ∧ (v2).toInt < (Γ.2.2.2 (M.2.2 v0 7) : Nat)) <|
  some ((M.1 (M.2.2 v0 6) v1.toNatClampNeg) - (M.1 (M.2.2 v0 7) v2.toNatClampNeg))
set_option maxHeartbeats 4000000 in
set_option maxRecDepth 100000 in
theorem b_X9_roomBeside {E : rhE} {Γ : rhG} {M : rhM} : ∀ (v0 : Nat) (v1 : Int32) (v2 : Int32), rhF E 1 3 yX9_roomBeside cX9_roomBeside (some .int) Γ (rhe0I Γ M) (f_X9_roomBeside Γ M v0 v1 v2) 0 [(0, rhR v0), (1, rhI v1), (2, rhI v2)] [] Γ M := by
  intro v0 v1 v2
  rw [f_X9_roomBeside]
  refine rhF.aload_n (pc := 0) dX9_roomBeside_0 0 rfl ?_
  refine rhF.ck (fun h1 => ?_)
  refine rhF.get (pc := 1) (rhR _) dX9_roomBeside_1 fl_X9_9 h1 rfl ?_
  refine rhF.iload_n (pc := 4) dX9_roomBeside_4 1 rfl ?_
  refine rhF.ck (fun h2 => ?_)
  refine rhF.ck (fun h3 => ?_)
  refine rhF.iald (pc := 5) dX9_roomBeside_5 h2 h3 ?_
  refine rhF.aload_n (pc := 6) dX9_roomBeside_6 0 rfl ?_
  refine rhF.get (pc := 7) (rhR _) dX9_roomBeside_7 fl_X9_15 h1 rfl ?_
  refine rhF.iload_n (pc := 10) dX9_roomBeside_10 2 rfl ?_
  refine rhF.ck (fun h4 => ?_)
  refine rhF.ck (fun h5 => ?_)
  refine rhF.iald (pc := 11) dX9_roomBeside_11 h4 h5 ?_
  refine rhF.isub (pc := 12) dX9_roomBeside_12 ?_
  exact rhF.zret (pc := 13) dX9_roomBeside_13 rfl rfl rfl
theorem c_X9_roomBeside (E : rhE) (Γ : rhG) (M : rhM) (v0 : Nat) (v1 : Int32) (v2 : Int32) : ∀ a, f_X9_roomBeside Γ M v0 v1 v2 = some a → rhC E 1 yX9_roomBeside cX9_roomBeside 3 (some .int) [rhR v0, rhI v1, rhI v2] Γ M ((rhe0I Γ M) a) := rhF.met (by decide +kernel) (Nat.le_of_ble_eq_true rfl) (b_X9_roomBeside v0 v1 v2)
def f_X9_allows (Γ : rhG) (M : rhM) (v0 : Nat) (v1 : Int32) (v2 : Int32) (v3 : Int32) (v4 : Int32) : Option (Int32 × rhM) :=
  rhck (Γ.2.2.1 v0 = 10) <|
  rhck (Γ.2.2.1 (M.2.2 v0 7) = 15) <|
  rhck (0 ≤ (v2).toInt ∧ (v2).toInt < (Γ.2.2.2 (M.2.2 v0 7) : Nat)) <|
  let x4 := M.1 (M.2.2 v0 7) v2.toNatClampNeg
  if (M.1 v0 2) < x4 then
    (some ((0, M)))
  else
    rhck (Γ.2.2.1 (M.2.2 v0 8) = 15) <|
    rhck (0 ≤ (v2).toInt ∧ (v2).toInt < (Γ.2.2.2 (M.2.2 v0 8) : Nat)) <|
    if (M.1 v0 3) < (M.1 (M.2.2 v0 8) v2.toNatClampNeg) then
      (some ((0, M)))
    else
      (f_X9_roomBeside Γ M v0 v3 v4).bind fun r9 =>
      if r9 < x4 then
        (some ((0, M)))
      else
        (f_X9_roomBeside Γ M v0 v3 v4).bind fun r11 =>
        rhck (Γ.2.2.1 (M.2.2 v0 11) = 2) <|
        (f_X1_comesTo Γ M (M.2.2 v0 11) v1 v2 v3 r11 (M.1 (M.2.2 v0 8) v2.toNatClampNeg) x4).bind fun r13 =>
        if r13.1 = 0 then
          (some ((0, r13.2)))
        else
          some ((1, r13.2))
set_option maxHeartbeats 4000000 in
set_option maxRecDepth 100000 in
theorem b_X9_allows {E : rhE} {Γ : rhG} : ∀ (M : rhM) (v0 : Nat) (v1 : Int32) (v2 : Int32) (v3 : Int32) (v4 : Int32), rhF E 6 6 yX9_allows cX9_allows (some .boolean) Γ (rhe1I Γ) (f_X9_allows Γ M v0 v1 v2 v3 v4) 0 [(0, rhR v0), (1, rhI v1), (2, rhI v2), (3, rhI v3), (4, rhI v4)] [] Γ M := by
  intro M v0 v1 v2 v3 v4
  rw [f_X9_allows]
  refine rhF.aload_n (pc := 0) dX9_allows_0 0 rfl ?_
  refine rhF.ck (fun h1 => ?_)
  refine rhF.get (pc := 1) (rhR _) dX9_allows_1 fl_X9_15 h1 rfl ?_
  refine rhF.iload_n (pc := 4) dX9_allows_4 2 rfl ?_
  refine rhF.ck (fun h2 => ?_)
  refine rhF.ck (fun h3 => ?_)
  refine rhF.iald (pc := 5) dX9_allows_5 h2 h3 ?_
  refine rhF.istore (pc := 6) (L' := [(5, rhI _), (0, rhR _), (1, rhI _), (2, rhI _), (3, rhI _), (4, rhI _)]) dX9_allows_6 (by decide) rfl ?_
  refine rhF.iload (pc := 8) dX9_allows_8 0 rfl ?_
  refine rhF.aload_n (pc := 10) dX9_allows_10 1 rfl ?_
  refine rhF.get (pc := 11) (rhI _) dX9_allows_11 fl_X9_45 h1 rfl ?_
  refine rhF.icmp_gt (pc := 14) 74 dX9_allows_14 (by decide) (fun h5 => ?_) (fun h5 => ?_)
  · refine rhF.iconst (pc := 74) (v := 0) dX9_allows_74 (by decide) ?_
    exact rhF.zret (pc := 75) dX9_allows_75 rfl rfl rfl
  · refine rhF.aload_n (pc := 17) dX9_allows_17 1 rfl ?_
    refine rhF.get (pc := 18) (rhR _) dX9_allows_18 fl_X9_18 h1 rfl ?_
    refine rhF.iload_n (pc := 21) dX9_allows_21 3 rfl ?_
    refine rhF.ck (fun h6 => ?_)
    refine rhF.ck (fun h7 => ?_)
    refine rhF.iald (pc := 22) dX9_allows_22 h6 h7 ?_
    refine rhF.aload_n (pc := 23) dX9_allows_23 1 rfl ?_
    refine rhF.get (pc := 24) (rhI _) dX9_allows_24 fl_X9_48 h1 rfl ?_
    refine rhF.icmp_gt (pc := 27) 74 dX9_allows_27 (by decide) (fun h8 => ?_) (fun h8 => ?_)
    · refine rhF.iconst (pc := 74) (v := 0) dX9_allows_74 (by decide) ?_
      exact rhF.zret (pc := 75) dX9_allows_75 rfl rfl rfl
    · refine rhF.iload (pc := 30) dX9_allows_30 0 rfl ?_
      refine rhF.aload_n (pc := 32) dX9_allows_32 1 rfl ?_
      refine rhF.iload_n (pc := 33) dX9_allows_33 4 rfl ?_
      refine rhF.iload (pc := 34) dX9_allows_34 5 rfl ?_
      refine rhF.callV (pc := 36) (ci := 9) (embc := rhe0I _ _) [rhI _, rhI _] dX9_allows_36 ml_X9_59 mv_X9_roomBeside ⟨_, rfl, rfl⟩ h1 (c_X9_roomBeside _ _ _ _ _ _) (by decide) (by decide) rfl (Nat.le_of_ble_eq_true rfl) (fun r9 _ => ?_)
      refine rhF.icmp_gt (pc := 39) 74 dX9_allows_39 (by decide) (fun h10 => ?_) (fun h10 => ?_)
      · refine rhF.iconst (pc := 74) (v := 0) dX9_allows_74 (by decide) ?_
        exact rhF.zret (pc := 75) dX9_allows_75 rfl rfl rfl
      · refine rhF.aload_n (pc := 42) dX9_allows_42 1 rfl ?_
        refine rhF.get (pc := 43) (rhR _) dX9_allows_43 fl_X9_31 h1 rfl ?_
        refine rhF.iload_n (pc := 46) dX9_allows_46 2 rfl ?_
        refine rhF.iload_n (pc := 47) dX9_allows_47 3 rfl ?_
        refine rhF.iload_n (pc := 48) dX9_allows_48 4 rfl ?_
        refine rhF.aload_n (pc := 49) dX9_allows_49 1 rfl ?_
        refine rhF.iload_n (pc := 50) dX9_allows_50 4 rfl ?_
        refine rhF.iload (pc := 51) dX9_allows_51 5 rfl ?_
        refine rhF.callV (pc := 53) (ci := 9) (embc := rhe0I _ _) [rhI _, rhI _] dX9_allows_53 ml_X9_59 mv_X9_roomBeside ⟨_, rfl, rfl⟩ h1 (c_X9_roomBeside _ _ _ _ _ _) (by decide) (by decide) rfl (Nat.le_of_ble_eq_true rfl) (fun r11 _ => ?_)
        refine rhF.aload_n (pc := 56) dX9_allows_56 1 rfl ?_
        refine rhF.get (pc := 57) (rhR _) dX9_allows_57 fl_X9_18 h1 rfl ?_
        refine rhF.iload_n (pc := 60) dX9_allows_60 3 rfl ?_
        refine rhF.iald (pc := 61) dX9_allows_61 h6 h7 ?_
        refine rhF.iload (pc := 62) dX9_allows_62 0 rfl ?_
        refine rhF.ck (fun h12 => ?_)
        refine rhF.callV (pc := 64) (ci := 1) (embc := rhe1I _) [rhI _, rhI _, rhI _, rhI _, rhI _, rhI _] dX9_allows_64 ml_X9_63 mv_X1_comesTo ⟨_, rfl, rfl⟩ h12 (c_X1_comesTo _ _ _ _ _ _ _ _ _ _) (by decide) (by decide) rfl (Nat.le_of_ble_eq_true rfl) (fun r13 _ => ?_)
        refine rhF.if_eq (pc := 67) 74 dX9_allows_67 (by decide) (fun h14 => ?_) (fun h14 => ?_)
        · refine rhF.iconst (pc := 74) (v := 0) dX9_allows_74 (by decide) ?_
          exact rhF.zret (pc := 75) dX9_allows_75 rfl rfl rfl
        · refine rhF.iconst (pc := 70) (v := 1) dX9_allows_70 (by decide) ?_
          refine rhF.goto (pc := 71) 75 dX9_allows_71 (by decide) ?_
          exact rhF.zret (pc := 75) dX9_allows_75 rfl rfl rfl
theorem c_X9_allows (E : rhE) (Γ : rhG) (M : rhM) (v0 : Nat) (v1 : Int32) (v2 : Int32) (v3 : Int32) (v4 : Int32) : ∀ a, f_X9_allows Γ M v0 v1 v2 v3 v4 = some a → rhC E 6 yX9_allows cX9_allows 6 (some .boolean) [rhR v0, rhI v1, rhI v2, rhI v3, rhI v4] Γ M ((rhe1I Γ) a) := rhF.met (by decide +kernel) (Nat.le_of_ble_eq_true rfl) (b_X9_allows M v0 v1 v2 v3 v4)
def f_X2_allows_54 (Γ : rhG) (M : rhM) (v0 : Nat) (v1 : Int32) (v2 : Int32) (v3 : Int32) (v4 : Int32) : Option (Int32 × rhM) :=
  rhck (Γ.2.2.1 v0 = 3) <|
  rhck (Γ.2.2.1 (M.2.2 v0 1) = 10) <|
  (f_X9_allows Γ M (M.2.2 v0 1) v1 v2 v3 v4).bind fun r9 =>
  rhck (r9.1 = 0 ∨ r9.1 = 1) <|
  some ((r9.1, r9.2))
def f_X2_allows_115 (k132 : rhM → Int32 → Option (Int32 × rhM)) (Γ : rhG) (M : rhM) (v0 : Nat) (v7 : Int32) (v8 : Int32) (s0 : Int32) : Option (Int32 × rhM) :=
  rhck (Γ.2.2.1 v0 = 3) <|
  rhck (Γ.2.2.1 (M.2.2 v0 0) = 15) <|
  rhck (0 ≤ (v7).toInt ∧ (v7).toInt < (Γ.2.2.2 (M.2.2 v0 0) : Nat)) <|
  let M22 := rhsi M (M.2.2 v0 0) (v7 : Int32).toNatClampNeg ((M.1 (M.2.2 v0 0) v7.toNatClampNeg) ||| (s0 <<< (v8 &&& 31)))
  k132 M22 s0
def f_X2_allows_132 (Γ : rhG) (M : rhM) (v9 : Int32) : Option (Int32 × rhM) :=
  if v9 = 1 then
    (some ((1, M)))
  else
    some ((0, M))
def f_X2_allows (Γ : rhG) (M : rhM) (v0 : Nat) (v1 : Int32) (v2 : Int32) (v3 : Int32) (v4 : Int32) : Option (Int32 × rhM) :=
  rhck (Γ.2.2.1 v0 = 3) <|
  rhck (Γ.2.2.1 (M.2.2 v0 1) = 10) <|
  let x3 := M.1 (M.2.2 v0 1) 1
  let x4 := (((((v1 * (M.1 (M.2.2 v0 1) 0)) + v3) <<< (x3 &&& 31)) ||| v2) <<< (x3 &&& 31)) ||| v4
  let x5 := x4 >>> (4 &&& 31)
  if x5 < 0 then
    (f_X2_allows_54 Γ M v0 v1 v2 v3 v4)
  else
    rhck (Γ.2.2.1 (M.2.2 v0 0) = 15) <|
    if x5 < (Int32.ofNat (Γ.2.2.2 (M.2.2 v0 0))) then
      (let x13 := 2 * (x4 &&& 15)
      rhck (0 ≤ (x5).toInt ∧ (x5).toInt < (Γ.2.2.2 (M.2.2 v0 0) : Nat)) <|
      let x15 := (rhus (M.1 (M.2.2 v0 0) x5.toNatClampNeg) x13) &&& 3
      if x15 = 0 then
        ((f_X9_allows Γ M (M.2.2 v0 1) v1 v2 v3 v4).bind fun r17 =>
        if r17.1 = 0 then
          (f_X2_allows_115 (f_X2_allows_132 Γ) Γ r17.2 v0 x5 x13 2)
        else
          f_X2_allows_115 (f_X2_allows_132 Γ) Γ r17.2 v0 x5 x13 1)
      else
        f_X2_allows_132 Γ M x15)
    else
      f_X2_allows_54 Γ M v0 v1 v2 v3 v4
set_option maxHeartbeats 4000000 in
set_option maxRecDepth 100000 in
theorem b_X2_allows_54 {E : rhE} {Γ : rhG} : ∀ (M : rhM) (v0 : Nat) (v1 : Int32) (v2 : Int32) (v3 : Int32) (v4 : Int32), rhF E 7 10 yX2_allows cX2_allows (some .boolean) Γ (rhe1I Γ) (f_X2_allows_54 Γ M v0 v1 v2 v3 v4) 54 [(0, rhR v0), (1, rhI v1), (2, rhI v2), (3, rhI v3), (4, rhI v4)] [] Γ M := by
  intro M v0 v1 v2 v3 v4
  rw [f_X2_allows_54]
  refine rhF.aload_n (pc := 54) dX2_allows_54 0 rfl ?_
  refine rhF.ck (fun h7 => ?_)
  refine rhF.get (pc := 55) (rhR _) dX2_allows_55 fl_X2_19 h7 rfl ?_
  refine rhF.iload_n (pc := 58) dX2_allows_58 1 rfl ?_
  refine rhF.iload_n (pc := 59) dX2_allows_59 2 rfl ?_
  refine rhF.iload_n (pc := 60) dX2_allows_60 3 rfl ?_
  refine rhF.iload (pc := 61) dX2_allows_61 4 rfl ?_
  refine rhF.ck (fun h8 => ?_)
  refine rhF.callV (pc := 63) (ci := 9) (embc := rhe1I _) [rhI _, rhI _, rhI _, rhI _] dX2_allows_63 ml_X2_44 mv_X9_allows ⟨_, rfl, rfl⟩ h8 (c_X9_allows _ _ _ _ _ _ _ _) (by decide) (by decide) rfl (Nat.le_of_ble_eq_true rfl) (fun r9 _ => ?_)
  refine rhF.ck (fun h10 => ?_)
  exact rhF.zret (pc := 66) dX2_allows_66 rfl (rhzb h10) rfl
set_option maxHeartbeats 4000000 in
set_option maxRecDepth 100000 in
theorem b_X2_allows_115 {E : rhE} {Γ : rhG} {k132 : rhM → Int32 → Option (Int32 × rhM)} (hk132 : ∀ (M : rhM) (v9 : Int32), rhF E 7 10 yX2_allows cX2_allows (some .boolean) Γ (rhe1I Γ) (k132 M v9) 132 [(9, rhI v9)] [] Γ M) : ∀ (M : rhM) (v0 : Nat) (v7 : Int32) (v8 : Int32) (s0 : Int32), rhF E 7 10 yX2_allows cX2_allows (some .boolean) Γ (rhe1I Γ) (f_X2_allows_115 k132 Γ M v0 v7 v8 s0) 115 [(0, rhR v0), (7, rhI v7), (8, rhI v8)] [rhI s0] Γ M := by
  intro M v0 v7 v8 s0
  rw [f_X2_allows_115]
  refine rhF.istore (pc := 115) (L' := [(9, rhI _), (0, rhR _), (7, rhI _), (8, rhI _)]) dX2_allows_115 (by decide) rfl ?_
  refine rhF.aload_n (pc := 117) dX2_allows_117 1 rfl ?_
  refine rhF.ck (fun h19 => ?_)
  refine rhF.get (pc := 118) (rhR _) dX2_allows_118 fl_X2_15 h19 rfl ?_
  refine rhF.iload (pc := 121) dX2_allows_121 2 rfl ?_
  refine rhF.dup2ri (pc := 123) dX2_allows_123 ?_
  refine rhF.ck (fun h20 => ?_)
  refine rhF.ck (fun h21 => ?_)
  refine rhF.iald (pc := 124) dX2_allows_124 h20 h21 ?_
  refine rhF.iload (pc := 125) dX2_allows_125 0 rfl ?_
  refine rhF.iload (pc := 127) dX2_allows_127 3 rfl ?_
  refine rhF.ishl (pc := 129) dX2_allows_129 ?_
  refine rhF.ior (pc := 130) dX2_allows_130 ?_
  refine rhF.iast (pc := 131) dX2_allows_131 h20 h21 ?_
  refine rhF.sub [0] rfl ?_
  exact hk132 _ _
set_option maxHeartbeats 4000000 in
set_option maxRecDepth 100000 in
theorem b_X2_allows_132 {E : rhE} {Γ : rhG} : ∀ (M : rhM) (v9 : Int32), rhF E 7 10 yX2_allows cX2_allows (some .boolean) Γ (rhe1I Γ) (f_X2_allows_132 Γ M v9) 132 [(9, rhI v9)] [] Γ M := by
  intro M v9
  rw [f_X2_allows_132]
  refine rhF.iload (pc := 132) dX2_allows_132 0 rfl ?_
  refine rhF.iconst (pc := 134) (v := 1) dX2_allows_134 (by decide) ?_
  refine rhF.icmp_ne (pc := 135) 142 dX2_allows_135 (by decide) (fun h23 => ?_) (fun h23 => ?_)
  · refine rhF.iconst (pc := 138) (v := 1) dX2_allows_138 (by decide) ?_
    refine rhF.goto (pc := 139) 143 dX2_allows_139 (by decide) ?_
    exact rhF.zret (pc := 143) dX2_allows_143 rfl rfl rfl
  · refine rhF.iconst (pc := 142) (v := 0) dX2_allows_142 (by decide) ?_
    exact rhF.zret (pc := 143) dX2_allows_143 rfl rfl rfl
set_option maxHeartbeats 4000000 in
set_option maxRecDepth 100000 in
theorem b_X2_allows {E : rhE} {Γ : rhG} : ∀ (M : rhM) (v0 : Nat) (v1 : Int32) (v2 : Int32) (v3 : Int32) (v4 : Int32), rhF E 7 10 yX2_allows cX2_allows (some .boolean) Γ (rhe1I Γ) (f_X2_allows Γ M v0 v1 v2 v3 v4) 0 [(0, rhR v0), (1, rhI v1), (2, rhI v2), (3, rhI v3), (4, rhI v4)] [] Γ M := by
  intro M v0 v1 v2 v3 v4
  rw [f_X2_allows]
  refine rhF.aload_n (pc := 0) dX2_allows_0 0 rfl ?_
  refine rhF.ck (fun h1 => ?_)
  refine rhF.get (pc := 1) (rhR _) dX2_allows_1 fl_X2_19 h1 rfl ?_
  refine rhF.ck (fun h2 => ?_)
  refine rhF.get (pc := 4) (rhI _) dX2_allows_4 fl_X2_23 h2 rfl ?_
  refine rhF.istore (pc := 7) (L' := [(5, rhI _), (0, rhR _), (1, rhI _), (2, rhI _), (3, rhI _), (4, rhI _)]) dX2_allows_7 (by decide) rfl ?_
  refine rhF.iload_n (pc := 9) dX2_allows_9 2 rfl ?_
  refine rhF.aload_n (pc := 10) dX2_allows_10 1 rfl ?_
  refine rhF.get (pc := 11) (rhR _) dX2_allows_11 fl_X2_19 h1 rfl ?_
  refine rhF.get (pc := 14) (rhI _) dX2_allows_14 fl_X2_29 h2 rfl ?_
  refine rhF.imul (pc := 17) dX2_allows_17 ?_
  refine rhF.iload_n (pc := 18) dX2_allows_18 4 rfl ?_
  refine rhF.iadd (pc := 19) dX2_allows_19 ?_
  refine rhF.iload (pc := 20) dX2_allows_20 0 rfl ?_
  refine rhF.ishl (pc := 22) dX2_allows_22 ?_
  refine rhF.iload_n (pc := 23) dX2_allows_23 3 rfl ?_
  refine rhF.ior (pc := 24) dX2_allows_24 ?_
  refine rhF.iload (pc := 25) dX2_allows_25 0 rfl ?_
  refine rhF.ishl (pc := 27) dX2_allows_27 ?_
  refine rhF.iload (pc := 28) dX2_allows_28 5 rfl ?_
  refine rhF.ior (pc := 30) dX2_allows_30 ?_
  refine rhF.istore (pc := 31) (L' := [(6, rhI _), (5, rhI _), (0, rhR _), (1, rhI _), (2, rhI _), (3, rhI _), (4, rhI _)]) dX2_allows_31 (by decide) rfl ?_
  refine rhF.iload (pc := 33) dX2_allows_33 0 rfl ?_
  refine rhF.iconst (pc := 35) (v := 4) dX2_allows_35 (by decide) ?_
  refine rhF.ishr (pc := 36) dX2_allows_36 ?_
  refine rhF.istore (pc := 37) (L' := [(7, rhI _), (6, rhI _), (5, rhI _), (0, rhR _), (1, rhI _), (2, rhI _), (3, rhI _), (4, rhI _)]) dX2_allows_37 (by decide) rfl ?_
  refine rhF.iload (pc := 39) dX2_allows_39 0 rfl ?_
  refine rhF.if_lt (pc := 41) 54 dX2_allows_41 (by decide) (fun h6 => ?_) (fun h6 => ?_)
  · refine rhF.sub [3, 4, 5, 6, 7] rfl ?_
    exact (b_X2_allows_54) _ _ _ _ _ _
  · refine rhF.iload (pc := 44) dX2_allows_44 0 rfl ?_
    refine rhF.aload_n (pc := 46) dX2_allows_46 3 rfl ?_
    refine rhF.get (pc := 47) (rhR _) dX2_allows_47 fl_X2_15 h1 rfl ?_
    refine rhF.ck (fun h11 => ?_)
    refine rhF.alen15 (pc := 50) dX2_allows_50 h11 ?_
    refine rhF.icmp_lt (pc := 51) 67 dX2_allows_51 (by decide) (fun h12 => ?_) (fun h12 => ?_)
    · refine rhF.iconst (pc := 67) (v := 2) dX2_allows_67 (by decide) ?_
      refine rhF.iload (pc := 68) dX2_allows_68 1 rfl ?_
      refine rhF.bipush (pc := 70) (v := 15) dX2_allows_70 (by decide) ?_
      refine rhF.iand (pc := 72) dX2_allows_72 ?_
      refine rhF.imul (pc := 73) dX2_allows_73 ?_
      refine rhF.istore (pc := 74) (L' := [(8, rhI _), (7, rhI _), (6, rhI _), (5, rhI _), (0, rhR _), (1, rhI _), (2, rhI _), (3, rhI _), (4, rhI _)]) dX2_allows_74 (by decide) rfl ?_
      refine rhF.aload_n (pc := 76) dX2_allows_76 4 rfl ?_
      refine rhF.get (pc := 77) (rhR _) dX2_allows_77 fl_X2_15 h1 rfl ?_
      refine rhF.iload (pc := 80) dX2_allows_80 1 rfl ?_
      refine rhF.ck (fun h14 => ?_)
      refine rhF.iald (pc := 82) dX2_allows_82 h11 h14 ?_
      refine rhF.iload (pc := 83) dX2_allows_83 0 rfl ?_
      refine rhF.iushr (pc := 85) dX2_allows_85 ?_
      refine rhF.iconst (pc := 86) (v := 3) dX2_allows_86 (by decide) ?_
      refine rhF.iand (pc := 87) dX2_allows_87 ?_
      refine rhF.istore (pc := 88) (L' := [(9, rhI _), (8, rhI _), (7, rhI _), (6, rhI _), (5, rhI _), (0, rhR _), (1, rhI _), (2, rhI _), (3, rhI _), (4, rhI _)]) dX2_allows_88 (by decide) rfl ?_
      refine rhF.iload (pc := 90) dX2_allows_90 0 rfl ?_
      refine rhF.if_ne (pc := 92) 132 dX2_allows_92 (by decide) (fun h16 => ?_) (fun h16 => ?_)
      · refine rhF.aload_n (pc := 95) dX2_allows_95 5 rfl ?_
        refine rhF.get (pc := 96) (rhR _) dX2_allows_96 fl_X2_19 h1 rfl ?_
        refine rhF.iload_n (pc := 99) dX2_allows_99 6 rfl ?_
        refine rhF.iload_n (pc := 100) dX2_allows_100 7 rfl ?_
        refine rhF.iload_n (pc := 101) dX2_allows_101 8 rfl ?_
        refine rhF.iload (pc := 102) dX2_allows_102 9 rfl ?_
        refine rhF.callV (pc := 104) (ci := 9) (embc := rhe1I _) [rhI _, rhI _, rhI _, rhI _] dX2_allows_104 ml_X2_44 mv_X9_allows ⟨_, rfl, rfl⟩ h2 (c_X9_allows _ _ _ _ _ _ _ _) (by decide) (by decide) rfl (Nat.le_of_ble_eq_true rfl) (fun r17 _ => ?_)
        refine rhF.if_eq (pc := 107) 114 dX2_allows_107 (by decide) (fun h18 => ?_) (fun h18 => ?_)
        · refine rhF.iconst (pc := 114) (v := 2) dX2_allows_114 (by decide) ?_
          refine rhF.sub [5, 2, 1] rfl ?_
          exact (b_X2_allows_115 (b_X2_allows_132)) _ _ _ _ _
        · refine rhF.iconst (pc := 110) (v := 1) dX2_allows_110 (by decide) ?_
          refine rhF.goto (pc := 111) 115 dX2_allows_111 (by decide) ?_
          refine rhF.sub [5, 2, 1] rfl ?_
          exact (b_X2_allows_115 (b_X2_allows_132)) _ _ _ _ _
      · refine rhF.sub [0] rfl ?_
        exact (b_X2_allows_132) _ _
    · refine rhF.sub [3, 4, 5, 6, 7] rfl ?_
      exact (b_X2_allows_54) _ _ _ _ _ _
theorem c_X2_allows (E : rhE) (Γ : rhG) (M : rhM) (v0 : Nat) (v1 : Int32) (v2 : Int32) (v3 : Int32) (v4 : Int32) : ∀ a, f_X2_allows Γ M v0 v1 v2 v3 v4 = some a → rhC E 7 yX2_allows cX2_allows 10 (some .boolean) [rhR v0, rhI v1, rhI v2, rhI v3, rhI v4] Γ M ((rhe1I Γ) a) := rhF.met (by decide +kernel) (Nat.le_of_ble_eq_true rfl) (b_X2_allows M v0 v1 v2 v3 v4)
def f_X2_placesFor (Γ : rhG) (M : rhM) (v0 : Int32) (v1 : Int32) : Option (Int32) :=
  some ((v1 * v1) <<< ((2 * v0) &&& 31))
set_option maxHeartbeats 4000000 in
set_option maxRecDepth 100000 in
theorem b_X2_placesFor {E : rhE} {Γ : rhG} {M : rhM} : ∀ (v0 : Int32) (v1 : Int32), rhF E 1 2 yX2_placesFor cX2_placesFor (some .int) Γ (rhe0I Γ M) (f_X2_placesFor Γ M v0 v1) 0 [(0, rhI v0), (1, rhI v1)] [] Γ M := by
  intro v0 v1
  rw [f_X2_placesFor]
  refine rhF.iload_n (pc := 0) dX2_placesFor_0 1 rfl ?_
  refine rhF.iload_n (pc := 1) dX2_placesFor_1 1 rfl ?_
  refine rhF.imul (pc := 2) dX2_placesFor_2 ?_
  refine rhF.iconst (pc := 3) (v := 2) dX2_placesFor_3 (by decide) ?_
  refine rhF.iload_n (pc := 4) dX2_placesFor_4 0 rfl ?_
  refine rhF.imul (pc := 5) dX2_placesFor_5 ?_
  refine rhF.ishl (pc := 6) dX2_placesFor_6 ?_
  exact rhF.zret (pc := 7) dX2_placesFor_7 rfl rfl rfl
theorem c_X2_placesFor (E : rhE) (Γ : rhG) (M : rhM) (v0 : Int32) (v1 : Int32) : ∀ a, f_X2_placesFor Γ M v0 v1 = some a → rhC E 1 yX2_placesFor cX2_placesFor 2 (some .int) [rhI v0, rhI v1] Γ M ((rhe0I Γ M) a) := rhF.met (by decide +kernel) (Nat.le_of_ble_eq_true rfl) (b_X2_placesFor v0 v1)
def f_X2_begin (Γ : rhG) (M : rhM) (v0 : Nat) (v1 : Nat) : Option (rhM) :=
  rhck (Γ.2.2.1 v0 = 3) <|
  let M2 := rhsr M v0 1 v1
  rhck (Γ.2.2.1 v1 = 10) <|
  (f_X2_placesFor Γ M2 (M.1 v1 1) (M.1 v1 0)).bind fun r4 =>
  let x5 := (r4 >>> (4 &&& 31)) + 1
  rhck (Γ.2.2.1 (M2.2.2 v0 0) = 15) <|
  let x7 : Int32 := if (Int32.ofNat (Γ.2.2.2 (M2.2.2 v0 0))) < x5 then Int32.ofNat (Γ.2.2.2 (M2.2.2 v0 0)) else x5
  (f_J7_fill_fda19 Γ M2 (M2.2.2 v0 0) (0 : Int32) x7 (0 : Int32)).bind fun r8 =>
  some r8
set_option maxHeartbeats 4000000 in
set_option maxRecDepth 100000 in
theorem b_X2_begin {E : rhE} {Γ : rhG} : ∀ (M : rhM) (v0 : Nat) (v1 : Nat), rhF E 7 3 yX2_begin cX2_begin none Γ (rhe1U Γ) (f_X2_begin Γ M v0 v1) 0 [(0, rhR v0), (1, rhR v1)] [] Γ M := by
  intro M v0 v1
  rw [f_X2_begin]
  refine rhF.aload_n (pc := 0) dX2_begin_0 0 rfl ?_
  refine rhF.aload_n (pc := 1) dX2_begin_1 1 rfl ?_
  refine rhF.ck (fun h1 => ?_)
  refine rhF.putr (pc := 2) dX2_begin_2 fl_X2_19 h1 (fun q hq => by cases hq; exact Or.inl rfl) (Or.inl ⟨_, rfl⟩) (fun _ => rfl) ?_
  refine rhF.aload_n (pc := 5) dX2_begin_5 1 rfl ?_
  refine rhF.ck (fun h3 => ?_)
  refine rhF.get (pc := 6) (rhI _) dX2_begin_6 fl_X2_23 h3 rfl ?_
  refine rhF.aload_n (pc := 9) dX2_begin_9 1 rfl ?_
  refine rhF.get (pc := 10) (rhI _) dX2_begin_10 fl_X2_29 h3 rfl ?_
  refine rhF.callS (pc := 13) (embc := rhe0I _ _) [rhI _, rhI _] dX2_begin_13 ml_X2_32 ms_X2_placesFor (c_X2_placesFor _ _ _ _ _) (by decide) (by decide) rfl (Nat.le_of_ble_eq_true rfl) (fun r4 _ => ?_)
  refine rhF.iconst (pc := 16) (v := 4) dX2_begin_16 (by decide) ?_
  refine rhF.ishr (pc := 17) dX2_begin_17 ?_
  refine rhF.iconst (pc := 18) (v := 1) dX2_begin_18 (by decide) ?_
  refine rhF.iadd (pc := 19) dX2_begin_19 ?_
  refine rhF.istore_n (pc := 20) (L' := [(2, rhI _), (0, rhR _), (1, rhR _)]) dX2_begin_20 (by decide) rfl ?_
  refine rhF.aload_n (pc := 21) dX2_begin_21 1 rfl ?_
  refine rhF.get (pc := 22) (rhR _) dX2_begin_22 fl_X2_15 h1 rfl ?_
  refine rhF.iconst (pc := 25) (v := 0) dX2_begin_25 (by decide) ?_
  refine rhF.iload_n (pc := 26) dX2_begin_26 0 rfl ?_
  refine rhF.aload_n (pc := 27) dX2_begin_27 1 rfl ?_
  refine rhF.get (pc := 28) (rhR _) dX2_begin_28 fl_X2_15 h1 rfl ?_
  refine rhF.ck (fun h6 => ?_)
  refine rhF.alen15 (pc := 31) dX2_begin_31 h6 ?_
  refine rhF.mmin (pc := 32) dX2_begin_32 mm_X2_35 (by decide) (Nat.le_of_ble_eq_true rfl) ?_
  refine rhF.iconst (pc := 35) (v := 0) dX2_begin_35 (by decide) ?_
  refine rhF.callS (pc := 36) (embc := rhe1U _) [rhR _, rhI _, rhI _, rhI _] dX2_begin_36 ml_X2_38 ms_J7_fill_fda19 (c_J7_fill_fda19 _ _ _ _ _ _ _) (by decide) (by decide) rfl (Nat.le_of_ble_eq_true rfl) (fun r8 _ => ?_)
  exact rhF.vret (pc := 39) dX2_begin_39 rfl rfl
theorem c_X2_begin (E : rhE) (Γ : rhG) (M : rhM) (v0 : Nat) (v1 : Nat) : ∀ a, f_X2_begin Γ M v0 v1 = some a → rhC E 7 yX2_begin cX2_begin 3 none [rhR v0, rhR v1] Γ M ((rhe1U Γ) a) := rhF.met (by decide +kernel) (Nat.le_of_ble_eq_true rfl) (b_X2_begin M v0 v1)
def f_X2_init (Γ : rhG) (M : rhM) (v0 : Nat) (v1 : Int32) : Option (rhG × rhM) :=
  rhck (Γ.2.2.1 v0 = 3) <|
  let x2 : Int32 := if (v1 >>> (4 &&& 31)) < 0 then 0 else v1 >>> (4 &&& 31)
  rhck (0 ≤ (x2 : Int32).toInt ∧ (x2 : Int32).toInt ≤ 67108864) <|
  let M5 := rhmn M (nu (Γ.1 + 1))
  let G4 := rhgn Γ 15 (x2 : Int32).toNatClampNeg (x2 : Int32).toNatClampNeg
  rhck (G4.2.2.1 v0 = 3) <|
  let M7 := rhsr M5 v0 0 ((nu (Γ.1 + 1)))
  some (G4, M7)
set_option maxHeartbeats 4000000 in
set_option maxRecDepth 100000 in
theorem b_X2_init {E : rhE} {Γ0 : rhG} : ∀ (Γ : rhG) (M : rhM) (v0 : Nat) (v1 : Int32), rhF E 5 2 yX2_init cX2_init none Γ0 rhe2U (f_X2_init Γ M v0 v1) 0 [(0, rhR v0), (1, rhI v1)] [] Γ M := by
  intro Γ M v0 v1
  rw [f_X2_init]
  refine rhF.aload_n (pc := 0) dX2_init_0 0 rfl ?_
  refine rhF.ck (fun h1 => ?_)
  refine rhF.objInit (pc := 1) dX2_init_1 oi_X2_1 (fun z => absurd (h1.symm.trans z) (by decide)) (by decide) (Nat.le_of_ble_eq_true rfl) ?_
  refine rhF.aload_n (pc := 4) dX2_init_4 0 rfl ?_
  refine rhF.iload_n (pc := 5) dX2_init_5 1 rfl ?_
  refine rhF.iconst (pc := 6) (v := 4) dX2_init_6 (by decide) ?_
  refine rhF.ishr (pc := 7) dX2_init_7 ?_
  refine rhF.iconst (pc := 8) (v := 0) dX2_init_8 (by decide) ?_
  refine rhF.mmax (pc := 9) dX2_init_9 mm_X2_9 (by decide) (Nat.le_of_ble_eq_true rfl) ?_
  refine rhF.ck (fun h3 => ?_)
  refine rhF.newI (pc := 12) dX2_init_12 ac_int h3 ?_
  refine rhF.ck (fun h6 => ?_)
  refine rhF.putr (pc := 14) dX2_init_14 fl_X2_15 h6 (fun q hq => by cases hq; exact Or.inr ⟨rfl, rfl, rfl⟩) (Or.inr ⟨_, rfl⟩) (fun _ => rfl) ?_
  exact rhF.vret (pc := 17) dX2_init_17 rfl rfl
theorem c_X2_init (E : rhE) (Γ : rhG) (M : rhM) (v0 : Nat) (v1 : Int32) : ∀ a, f_X2_init Γ M v0 v1 = some a → rhC E 5 yX2_init cX2_init 2 none [rhR v0, rhI v1] Γ M (rhe2U a) := rhF.met (by decide +kernel) (Nat.le_of_ble_eq_true rfl) (b_X2_init (Γ0 := Γ) Γ M v0 v1)
def f_X3_add (Γ : rhG) (M : rhM) (v0 : Nat) (v1 : Int32) : Option (Int32 × rhM) :=
  rhck (Γ.2.2.1 v0 = 4) <|
  rhck (Γ.2.2.1 (M.2.2 v0 0) = 15) <|
  if (M.1 v0 1) < (Int32.ofNat (Γ.2.2.2 (M.2.2 v0 0))) then
    (rhck (0 ≤ (M.1 v0 1).toInt ∧ (M.1 v0 1).toInt < (Γ.2.2.2 (M.2.2 v0 0) : Nat)) <|
    let M5 := rhsi M (M.2.2 v0 0) (M.1 v0 1 : Int32).toNatClampNeg v1
    let M6 := rhsi M5 v0 1 ((M5.1 v0 1) + 1)
    some ((1, M6)))
  else
    some ((0, M))
set_option maxHeartbeats 4000000 in
set_option maxRecDepth 100000 in
theorem b_X3_add {E : rhE} {Γ : rhG} : ∀ (M : rhM) (v0 : Nat) (v1 : Int32), rhF E 1 2 yX3_add cX3_add (some .boolean) Γ (rhe1I Γ) (f_X3_add Γ M v0 v1) 0 [(0, rhR v0), (1, rhI v1)] [] Γ M := by
  intro M v0 v1
  rw [f_X3_add]
  refine rhF.aload_n (pc := 0) dX3_add_0 0 rfl ?_
  refine rhF.ck (fun h1 => ?_)
  refine rhF.get (pc := 1) (rhI _) dX3_add_1 fl_X3_19 h1 rfl ?_
  refine rhF.aload_n (pc := 4) dX3_add_4 0 rfl ?_
  refine rhF.get (pc := 5) (rhR _) dX3_add_5 fl_X3_13 h1 rfl ?_
  refine rhF.ck (fun h2 => ?_)
  refine rhF.alen15 (pc := 8) dX3_add_8 h2 ?_
  refine rhF.icmp_lt (pc := 9) 14 dX3_add_9 (by decide) (fun h3 => ?_) (fun h3 => ?_)
  · refine rhF.aload_n (pc := 14) dX3_add_14 0 rfl ?_
    refine rhF.get (pc := 15) (rhR _) dX3_add_15 fl_X3_13 h1 rfl ?_
    refine rhF.aload_n (pc := 18) dX3_add_18 0 rfl ?_
    refine rhF.get (pc := 19) (rhI _) dX3_add_19 fl_X3_19 h1 rfl ?_
    refine rhF.iload_n (pc := 22) dX3_add_22 1 rfl ?_
    refine rhF.ck (fun h4 => ?_)
    refine rhF.iast (pc := 23) dX3_add_23 h2 h4 ?_
    refine rhF.aload_n (pc := 24) dX3_add_24 0 rfl ?_
    refine rhF.dupr (pc := 25) dX3_add_25 ?_
    refine rhF.get (pc := 26) (rhI _) dX3_add_26 fl_X3_19 h1 rfl ?_
    refine rhF.iconst (pc := 29) (v := 1) dX3_add_29 (by decide) ?_
    refine rhF.iadd (pc := 30) dX3_add_30 ?_
    refine rhF.puti (pc := 31) dX3_add_31 fl_X3_19 h1 (fun q hq => by cases hq; exact Or.inl rfl) ⟨rfl, rfl⟩ (fun _ => rfl) ?_
    refine rhF.iconst (pc := 34) (v := 1) dX3_add_34 (by decide) ?_
    exact rhF.zret (pc := 35) dX3_add_35 rfl rfl rfl
  · refine rhF.iconst (pc := 12) (v := 0) dX3_add_12 (by decide) ?_
    exact rhF.zret (pc := 13) dX3_add_13 rfl rfl rfl
theorem c_X3_add (E : rhE) (Γ : rhG) (M : rhM) (v0 : Nat) (v1 : Int32) : ∀ a, f_X3_add Γ M v0 v1 = some a → rhC E 1 yX3_add cX3_add 2 (some .boolean) [rhR v0, rhI v1] Γ M ((rhe1I Γ) a) := rhF.met (by decide +kernel) (Nat.le_of_ble_eq_true rfl) (b_X3_add M v0 v1)
def f_X3_code (Γ : rhG) (M : rhM) (v0 : Int32) (v1 : Int32) (v2 : Int32) : Option (Int32) :=
  some (((100 * v0) + (10 * v1)) + v2)
set_option maxHeartbeats 4000000 in
set_option maxRecDepth 100000 in
theorem b_X3_code {E : rhE} {Γ : rhG} {M : rhM} : ∀ (v0 : Int32) (v1 : Int32) (v2 : Int32), rhF E 1 3 yX3_code cX3_code (some .int) Γ (rhe0I Γ M) (f_X3_code Γ M v0 v1 v2) 0 [(0, rhI v0), (1, rhI v1), (2, rhI v2)] [] Γ M := by
  intro v0 v1 v2
  rw [f_X3_code]
  refine rhF.bipush (pc := 0) (v := 100) dX3_code_0 (by decide) ?_
  refine rhF.iload_n (pc := 2) dX3_code_2 0 rfl ?_
  refine rhF.imul (pc := 3) dX3_code_3 ?_
  refine rhF.bipush (pc := 4) (v := 10) dX3_code_4 (by decide) ?_
  refine rhF.iload_n (pc := 6) dX3_code_6 1 rfl ?_
  refine rhF.imul (pc := 7) dX3_code_7 ?_
  refine rhF.iadd (pc := 8) dX3_code_8 ?_
  refine rhF.iload_n (pc := 9) dX3_code_9 2 rfl ?_
  refine rhF.iadd (pc := 10) dX3_code_10 ?_
  exact rhF.zret (pc := 11) dX3_code_11 rfl rfl rfl
theorem c_X3_code (E : rhE) (Γ : rhG) (M : rhM) (v0 : Int32) (v1 : Int32) (v2 : Int32) : ∀ a, f_X3_code Γ M v0 v1 v2 = some a → rhC E 1 yX3_code cX3_code 3 (some .int) [rhI v0, rhI v1, rhI v2] Γ M ((rhe0I Γ M) a) := rhF.met (by decide +kernel) (Nat.le_of_ble_eq_true rfl) (b_X3_code v0 v1 v2)
def f_X3_copy (Γ : rhG) (M : rhM) (v0 : Nat) (v1 : Nat) : Option (rhG × rhM) :=
  rhck (Γ.2.2.1 v1 = 4) <|
  rhck (Γ.2.2.1 v0 = 4) <|
  (f_X3_widen Γ M v0 (M.1 v1 1)).bind fun r3 =>
  rhck (r3.1.2.2.1 v1 = 4) <|
  rhck (r3.1.2.2.1 v0 = 4) <|
  rhck (r3.1.2.2.1 (r3.2.2.2 v1 0) = 15) <|
  rhck (r3.1.2.2.1 (r3.2.2.2 v0 0) = 15) <|
  rhck (0 ≤ (0 : Int32).toInt ∧ 0 ≤ (0 : Int32).toInt ∧ 0 ≤ (r3.2.1 v1 1 : Int32).toInt ∧ (0 : Int32).toInt + (r3.2.1 v1 1 : Int32).toInt ≤ (r3.1.2.2.2 (r3.2.2.2 v1 0) : Nat) ∧ (0 : Int32).toInt + (r3.2.1 v1 1 : Int32).toInt ≤ (r3.1.2.2.2 (r3.2.2.2 v0 0) : Nat)) <|
  let M9 := rhcp r3.2 (r3.2.2.2 v1 0) (r3.2.2.2 v0 0) (0 : Int32).toNatClampNeg (0 : Int32).toNatClampNeg (r3.2.1 v1 1 : Int32).toNatClampNeg
  let M10 := rhsi M9 v0 1 (M9.1 v1 1)
  let M11 := rhsi M10 v0 2 (M10.1 v1 2)
  some (r3.1, M11)
set_option maxHeartbeats 4000000 in
set_option maxRecDepth 100000 in
theorem b_X3_copy {E : rhE} {Γ0 : rhG} : ∀ (Γ : rhG) (M : rhM) (v0 : Nat) (v1 : Nat), rhF E 6 2 yX3_copy cX3_copy none Γ0 rhe2U (f_X3_copy Γ M v0 v1) 0 [(0, rhR v0), (1, rhR v1)] [] Γ M := by
  intro Γ M v0 v1
  rw [f_X3_copy]
  refine rhF.aload_n (pc := 0) dX3_copy_0 0 rfl ?_
  refine rhF.aload_n (pc := 1) dX3_copy_1 1 rfl ?_
  refine rhF.ck (fun h1 => ?_)
  refine rhF.get (pc := 2) (rhI _) dX3_copy_2 fl_X3_19 h1 rfl ?_
  refine rhF.ck (fun h2 => ?_)
  refine rhF.callV (pc := 5) (ci := 3) (embc := rhe2U) [rhI _] dX3_copy_5 ml_X3_26 mv_X3_widen ⟨_, rfl, rfl⟩ h2 (c_X3_widen _ _ _ _ _) (by decide) (by decide) rfl (Nat.le_of_ble_eq_true rfl) (fun r3 _ => ?_)
  refine rhF.aload_n (pc := 8) dX3_copy_8 1 rfl ?_
  refine rhF.ck (fun h4 => ?_)
  refine rhF.get (pc := 9) (rhR _) dX3_copy_9 fl_X3_13 h4 rfl ?_
  refine rhF.iconst (pc := 12) (v := 0) dX3_copy_12 (by decide) ?_
  refine rhF.aload_n (pc := 13) dX3_copy_13 0 rfl ?_
  refine rhF.ck (fun h5 => ?_)
  refine rhF.get (pc := 14) (rhR _) dX3_copy_14 fl_X3_13 h5 rfl ?_
  refine rhF.iconst (pc := 17) (v := 0) dX3_copy_17 (by decide) ?_
  refine rhF.aload_n (pc := 18) dX3_copy_18 1 rfl ?_
  refine rhF.get (pc := 19) (rhI _) dX3_copy_19 fl_X3_19 h4 rfl ?_
  refine rhF.ck (fun h6 => ?_)
  refine rhF.ck (fun h7 => ?_)
  refine rhF.ck (fun h8 => ?_)
  refine rhF.copyI (pc := 22) dX3_copy_22 ac_X3_30 h6 h7 h8 (by decide) (Nat.le_of_ble_eq_true rfl) ?_
  refine rhF.aload_n (pc := 25) dX3_copy_25 0 rfl ?_
  refine rhF.aload_n (pc := 26) dX3_copy_26 1 rfl ?_
  refine rhF.get (pc := 27) (rhI _) dX3_copy_27 fl_X3_19 h4 rfl ?_
  refine rhF.puti (pc := 30) dX3_copy_30 fl_X3_19 h5 (fun q hq => by cases hq; exact Or.inl rfl) ⟨rfl, rfl⟩ (fun _ => rfl) ?_
  refine rhF.aload_n (pc := 33) dX3_copy_33 0 rfl ?_
  refine rhF.aload_n (pc := 34) dX3_copy_34 1 rfl ?_
  refine rhF.get (pc := 35) (rhI _) dX3_copy_35 fl_X3_23 h4 rfl ?_
  refine rhF.puti (pc := 38) dX3_copy_38 fl_X3_23 h5 (fun q hq => by cases hq; exact Or.inl rfl) ⟨rfl, rfl⟩ (fun _ => rfl) ?_
  exact rhF.vret (pc := 41) dX3_copy_41 rfl rfl
theorem c_X3_copy (E : rhE) (Γ : rhG) (M : rhM) (v0 : Nat) (v1 : Nat) : ∀ a, f_X3_copy Γ M v0 v1 = some a → rhC E 6 yX3_copy cX3_copy 2 none [rhR v0, rhR v1] Γ M (rhe2U a) := rhF.met (by decide +kernel) (Nat.le_of_ble_eq_true rfl) (b_X3_copy (Γ0 := Γ) Γ M v0 v1)
def f_X3_fromOf (Γ : rhG) (M : rhM) (v0 : Int32) : Option (Int32) :=
  some (v0 / 100)
set_option maxHeartbeats 4000000 in
set_option maxRecDepth 100000 in
theorem b_X3_fromOf {E : rhE} {Γ : rhG} {M : rhM} : ∀ (v0 : Int32), rhF E 1 1 yX3_fromOf cX3_fromOf (some .int) Γ (rhe0I Γ M) (f_X3_fromOf Γ M v0) 0 [(0, rhI v0)] [] Γ M := by
  intro v0
  rw [f_X3_fromOf]
  refine rhF.iload_n (pc := 0) dX3_fromOf_0 0 rfl ?_
  refine rhF.bipush (pc := 1) (v := 100) dX3_fromOf_1 (by decide) ?_
  refine rhF.idivc (pc := 3) dX3_fromOf_3 (by decide) ?_
  exact rhF.zret (pc := 4) dX3_fromOf_4 rfl rfl rfl
theorem c_X3_fromOf (E : rhE) (Γ : rhG) (M : rhM) (v0 : Int32) : ∀ a, f_X3_fromOf Γ M v0 = some a → rhC E 1 yX3_fromOf cX3_fromOf 1 (some .int) [rhI v0] Γ M ((rhe0I Γ M) a) := rhF.met (by decide +kernel) (Nat.le_of_ble_eq_true rfl) (b_X3_fromOf v0)
def f_X3_init (Γ : rhG) (M : rhM) (v0 : Nat) (v1 : Int32) : Option (rhG × rhM) :=
  rhck (Γ.2.2.1 v0 = 4) <|
  let x2 : Int32 := if v1 < 0 then 0 else v1
  rhck (0 ≤ (x2 : Int32).toInt ∧ (x2 : Int32).toInt ≤ 67108864) <|
  let M5 := rhmn M (nu (Γ.1 + 1))
  let G4 := rhgn Γ 15 (x2 : Int32).toNatClampNeg (x2 : Int32).toNatClampNeg
  rhck (G4.2.2.1 v0 = 4) <|
  let M7 := rhsr M5 v0 0 ((nu (Γ.1 + 1)))
  some (G4, M7)
set_option maxHeartbeats 4000000 in
set_option maxRecDepth 100000 in
theorem b_X3_init {E : rhE} {Γ0 : rhG} : ∀ (Γ : rhG) (M : rhM) (v0 : Nat) (v1 : Int32), rhF E 5 2 yX3_init cX3_init none Γ0 rhe2U (f_X3_init Γ M v0 v1) 0 [(0, rhR v0), (1, rhI v1)] [] Γ M := by
  intro Γ M v0 v1
  rw [f_X3_init]
  refine rhF.aload_n (pc := 0) dX3_init_0 0 rfl ?_
  refine rhF.ck (fun h1 => ?_)
  refine rhF.objInit (pc := 1) dX3_init_1 oi_X3_1 (fun z => absurd (h1.symm.trans z) (by decide)) (by decide) (Nat.le_of_ble_eq_true rfl) ?_
  refine rhF.aload_n (pc := 4) dX3_init_4 0 rfl ?_
  refine rhF.iload_n (pc := 5) dX3_init_5 1 rfl ?_
  refine rhF.iconst (pc := 6) (v := 0) dX3_init_6 (by decide) ?_
  refine rhF.mmax (pc := 7) dX3_init_7 mm_X3_7 (by decide) (Nat.le_of_ble_eq_true rfl) ?_
  refine rhF.ck (fun h3 => ?_)
  refine rhF.newI (pc := 10) dX3_init_10 ac_int h3 ?_
  refine rhF.ck (fun h6 => ?_)
  refine rhF.putr (pc := 12) dX3_init_12 fl_X3_13 h6 (fun q hq => by cases hq; exact Or.inl rfl) (Or.inr ⟨_, rfl⟩) (fun _ => rfl) ?_
  exact rhF.vret (pc := 15) dX3_init_15 rfl rfl
theorem c_X3_init (E : rhE) (Γ : rhG) (M : rhM) (v0 : Nat) (v1 : Int32) : ∀ a, f_X3_init Γ M v0 v1 = some a → rhC E 5 yX3_init cX3_init 2 none [rhR v0, rhI v1] Γ M (rhe2U a) := rhF.met (by decide +kernel) (Nat.le_of_ble_eq_true rfl) (b_X3_init (Γ0 := Γ) Γ M v0 v1)
def f_X3_manyOf (Γ : rhG) (M : rhM) (v0 : Int32) : Option (Int32) :=
  some ((v0 / 10) - (v0 / 10) / 10 * 10)
set_option maxHeartbeats 4000000 in
set_option maxRecDepth 100000 in
theorem b_X3_manyOf {E : rhE} {Γ : rhG} {M : rhM} : ∀ (v0 : Int32), rhF E 1 1 yX3_manyOf cX3_manyOf (some .int) Γ (rhe0I Γ M) (f_X3_manyOf Γ M v0) 0 [(0, rhI v0)] [] Γ M := by
  intro v0
  rw [f_X3_manyOf]
  refine rhF.iload_n (pc := 0) dX3_manyOf_0 0 rfl ?_
  refine rhF.bipush (pc := 1) (v := 10) dX3_manyOf_1 (by decide) ?_
  refine rhF.idivc (pc := 3) dX3_manyOf_3 (by decide) ?_
  refine rhF.bipush (pc := 4) (v := 10) dX3_manyOf_4 (by decide) ?_
  refine rhF.iremc (pc := 6) dX3_manyOf_6 (by decide) ?_
  exact rhF.zret (pc := 7) dX3_manyOf_7 rfl rfl rfl
theorem c_X3_manyOf (E : rhE) (Γ : rhG) (M : rhM) (v0 : Int32) : ∀ a, f_X3_manyOf Γ M v0 = some a → rhC E 1 yX3_manyOf cX3_manyOf 1 (some .int) [rhI v0] Γ M ((rhe0I Γ M) a) := rhF.met (by decide +kernel) (Nat.le_of_ble_eq_true rfl) (b_X3_manyOf v0)
def f_X3_toOf (Γ : rhG) (M : rhM) (v0 : Int32) : Option (Int32) :=
  some (v0 - v0 / 10 * 10)
set_option maxHeartbeats 4000000 in
set_option maxRecDepth 100000 in
theorem b_X3_toOf {E : rhE} {Γ : rhG} {M : rhM} : ∀ (v0 : Int32), rhF E 1 1 yX3_toOf cX3_toOf (some .int) Γ (rhe0I Γ M) (f_X3_toOf Γ M v0) 0 [(0, rhI v0)] [] Γ M := by
  intro v0
  rw [f_X3_toOf]
  refine rhF.iload_n (pc := 0) dX3_toOf_0 0 rfl ?_
  refine rhF.bipush (pc := 1) (v := 10) dX3_toOf_1 (by decide) ?_
  refine rhF.iremc (pc := 3) dX3_toOf_3 (by decide) ?_
  exact rhF.zret (pc := 4) dX3_toOf_4 rfl rfl rfl
theorem c_X3_toOf (E : rhE) (Γ : rhG) (M : rhM) (v0 : Int32) : ∀ a, f_X3_toOf Γ M v0 = some a → rhC E 1 yX3_toOf cX3_toOf 1 (some .int) [rhI v0] Γ M ((rhe0I Γ M) a) := rhF.met (by decide +kernel) (Nat.le_of_ble_eq_true rfl) (b_X3_toOf v0)
def f_X4_blame (Γ : rhG) (M : rhM) (v0 : Nat) (v1 : Int32) (v2 : Int32) : Option (rhM) :=
  rhck (Γ.2.2.1 v0 = 5) <|
  if (M.1 v0 0) = 0 then
    (let M3 := rhsi M v0 0 v1
    let M4 := rhsi M3 v0 1 v2
    some M4)
  else
    some M
set_option maxHeartbeats 4000000 in
set_option maxRecDepth 100000 in
theorem b_X4_blame {E : rhE} {Γ : rhG} : ∀ (M : rhM) (v0 : Nat) (v1 : Int32) (v2 : Int32), rhF E 1 3 yX4_blame cX4_blame none Γ (rhe1U Γ) (f_X4_blame Γ M v0 v1 v2) 0 [(0, rhR v0), (1, rhI v1), (2, rhI v2)] [] Γ M := by
  intro M v0 v1 v2
  rw [f_X4_blame]
  refine rhF.aload_n (pc := 0) dX4_blame_0 0 rfl ?_
  refine rhF.ck (fun h1 => ?_)
  refine rhF.get (pc := 1) (rhI _) dX4_blame_1 fl_X4_43 h1 rfl ?_
  refine rhF.if_ne (pc := 4) 17 dX4_blame_4 (by decide) (fun h2 => ?_) (fun h2 => ?_)
  · refine rhF.aload_n (pc := 7) dX4_blame_7 0 rfl ?_
    refine rhF.iload_n (pc := 8) dX4_blame_8 1 rfl ?_
    refine rhF.puti (pc := 9) dX4_blame_9 fl_X4_43 h1 (fun q hq => by cases hq; exact Or.inl rfl) ⟨rfl, rfl⟩ (fun _ => rfl) ?_
    refine rhF.aload_n (pc := 12) dX4_blame_12 0 rfl ?_
    refine rhF.iload_n (pc := 13) dX4_blame_13 2 rfl ?_
    refine rhF.puti (pc := 14) dX4_blame_14 fl_X4_9 h1 (fun q hq => by cases hq; exact Or.inl rfl) ⟨rfl, rfl⟩ (fun _ => rfl) ?_
    exact rhF.vret (pc := 17) dX4_blame_17 rfl rfl
  · exact rhF.vret (pc := 17) dX4_blame_17 rfl rfl
theorem c_X4_blame (E : rhE) (Γ : rhG) (M : rhM) (v0 : Nat) (v1 : Int32) (v2 : Int32) : ∀ a, f_X4_blame Γ M v0 v1 v2 = some a → rhC E 1 yX4_blame cX4_blame 3 none [rhR v0, rhI v1, rhI v2] Γ M ((rhe1U Γ) a) := rhF.met (by decide +kernel) (Nat.le_of_ble_eq_true rfl) (b_X4_blame M v0 v1 v2)
def f_X4_refuse_17 (Γ : rhG) (M : rhM) (v0 : Nat) (s0 : Nat) (s1 : Int32) : Option (rhM) :=
  rhck (Γ.2.2.1 v0 = 5) <|
  rhck (Γ.2.2.1 (M.2.2 v0 2) = 9) <|
  rhck (Γ.2.2.1 s0 = 5) <|
  (f_X4_blame Γ M s0 s1 (M.1 (M.2.2 v0 2) 5)).bind fun r7 =>
  some r7
def f_X4_refuse (Γ : rhG) (M : rhM) (v0 : Nat) : Option (rhM) :=
  rhck (Γ.2.2.1 v0 = 5) <|
  rhck (Γ.2.2.1 (M.2.2 v0 2) = 9) <|
  if (M.1 (M.2.2 v0 2) 4) = 1 then
    (f_X4_refuse_17 Γ M v0 v0 1)
  else
    f_X4_refuse_17 Γ M v0 v0 2
set_option maxHeartbeats 4000000 in
set_option maxRecDepth 100000 in
theorem b_X4_refuse_17 {E : rhE} {Γ : rhG} : ∀ (M : rhM) (v0 : Nat) (s0 : Nat) (s1 : Int32), rhF E 5 1 yX4_refuse cX4_refuse none Γ (rhe1U Γ) (f_X4_refuse_17 Γ M v0 s0 s1) 17 [(0, rhR v0)] [rhI s1, rhR s0] Γ M := by
  intro M v0 s0 s1
  rw [f_X4_refuse_17]
  refine rhF.aload_n (pc := 17) dX4_refuse_17 0 rfl ?_
  refine rhF.ck (fun h4 => ?_)
  refine rhF.get (pc := 18) (rhR _) dX4_refuse_18 fl_X4_18 h4 rfl ?_
  refine rhF.ck (fun h5 => ?_)
  refine rhF.get (pc := 21) (rhI _) dX4_refuse_21 fl_X4_121 h5 rfl ?_
  refine rhF.ck (fun h6 => ?_)
  refine rhF.callV (pc := 24) (ci := 4) (embc := rhe1U _) [rhI _, rhI _] dX4_refuse_24 ml_X4_122 mv_X4_blame ⟨_, rfl, rfl⟩ h6 (c_X4_blame _ _ _ _ _ _) (by decide) (by decide) rfl (Nat.le_of_ble_eq_true rfl) (fun r7 _ => ?_)
  exact rhF.vret (pc := 27) dX4_refuse_27 rfl rfl
set_option maxHeartbeats 4000000 in
set_option maxRecDepth 100000 in
theorem b_X4_refuse {E : rhE} {Γ : rhG} : ∀ (M : rhM) (v0 : Nat), rhF E 5 1 yX4_refuse cX4_refuse none Γ (rhe1U Γ) (f_X4_refuse Γ M v0) 0 [(0, rhR v0)] [] Γ M := by
  intro M v0
  rw [f_X4_refuse]
  refine rhF.aload_n (pc := 0) dX4_refuse_0 0 rfl ?_
  refine rhF.aload_n (pc := 1) dX4_refuse_1 0 rfl ?_
  refine rhF.ck (fun h1 => ?_)
  refine rhF.get (pc := 2) (rhR _) dX4_refuse_2 fl_X4_18 h1 rfl ?_
  refine rhF.ck (fun h2 => ?_)
  refine rhF.get (pc := 5) (rhI _) dX4_refuse_5 fl_X4_46 h2 rfl ?_
  refine rhF.iconst (pc := 8) (v := 1) dX4_refuse_8 (by decide) ?_
  refine rhF.icmp_ne (pc := 9) 16 dX4_refuse_9 (by decide) (fun h3 => ?_) (fun h3 => ?_)
  · refine rhF.iconst (pc := 12) (v := 1) dX4_refuse_12 (by decide) ?_
    refine rhF.goto (pc := 13) 17 dX4_refuse_13 (by decide) ?_
    exact (b_X4_refuse_17) _ _ _ _
  · refine rhF.iconst (pc := 16) (v := 2) dX4_refuse_16 (by decide) ?_
    exact (b_X4_refuse_17) _ _ _ _
theorem c_X4_refuse (E : rhE) (Γ : rhG) (M : rhM) (v0 : Nat) : ∀ a, f_X4_refuse Γ M v0 = some a → rhC E 5 yX4_refuse cX4_refuse 1 none [rhR v0] Γ M ((rhe1U Γ) a) := rhF.met (by decide +kernel) (Nat.le_of_ble_eq_true rfl) (b_X4_refuse M v0)
def f_X8_isDigit (Γ : rhG) (M : rhM) (v0 : Int32) : Option (Int32) :=
  if v0 < 48 then
    (some 0)
  else
    if 57 < v0 then
      (some 0)
    else
      some 1
set_option maxHeartbeats 4000000 in
set_option maxRecDepth 100000 in
theorem b_X8_isDigit {E : rhE} {Γ : rhG} {M : rhM} : ∀ (v0 : Int32), rhF E 1 1 yX8_isDigit cX8_isDigit (some .boolean) Γ (rhe0I Γ M) (f_X8_isDigit Γ M v0) 0 [(0, rhI v0)] [] Γ M := by
  intro v0
  rw [f_X8_isDigit]
  refine rhF.iload_n (pc := 0) dX8_isDigit_0 0 rfl ?_
  refine rhF.bipush (pc := 1) (v := 48) dX8_isDigit_1 (by decide) ?_
  refine rhF.icmp_lt (pc := 3) 16 dX8_isDigit_3 (by decide) (fun h1 => ?_) (fun h1 => ?_)
  · refine rhF.iconst (pc := 16) (v := 0) dX8_isDigit_16 (by decide) ?_
    exact rhF.zret (pc := 17) dX8_isDigit_17 rfl rfl rfl
  · refine rhF.iload_n (pc := 6) dX8_isDigit_6 0 rfl ?_
    refine rhF.bipush (pc := 7) (v := 57) dX8_isDigit_7 (by decide) ?_
    refine rhF.icmp_gt (pc := 9) 16 dX8_isDigit_9 (by decide) (fun h2 => ?_) (fun h2 => ?_)
    · refine rhF.iconst (pc := 16) (v := 0) dX8_isDigit_16 (by decide) ?_
      exact rhF.zret (pc := 17) dX8_isDigit_17 rfl rfl rfl
    · refine rhF.iconst (pc := 12) (v := 1) dX8_isDigit_12 (by decide) ?_
      refine rhF.goto (pc := 13) 17 dX8_isDigit_13 (by decide) ?_
      exact rhF.zret (pc := 17) dX8_isDigit_17 rfl rfl rfl
theorem c_X8_isDigit (E : rhE) (Γ : rhG) (M : rhM) (v0 : Int32) : ∀ a, f_X8_isDigit Γ M v0 = some a → rhC E 1 yX8_isDigit cX8_isDigit 1 (some .boolean) [rhI v0] Γ M ((rhe0I Γ M) a) := rhF.met (by decide +kernel) (Nat.le_of_ble_eq_true rfl) (b_X8_isDigit v0)
def f_X8_isLetter (Γ : rhG) (M : rhM) (v0 : Int32) : Option (Int32) :=
  if v0 < 97 then
    (some 0)
  else
    if 122 < v0 then
      (some 0)
    else
      some 1
set_option maxHeartbeats 4000000 in
set_option maxRecDepth 100000 in
theorem b_X8_isLetter {E : rhE} {Γ : rhG} {M : rhM} : ∀ (v0 : Int32), rhF E 1 1 yX8_isLetter cX8_isLetter (some .boolean) Γ (rhe0I Γ M) (f_X8_isLetter Γ M v0) 0 [(0, rhI v0)] [] Γ M := by
  intro v0
  rw [f_X8_isLetter]
  refine rhF.iload_n (pc := 0) dX8_isLetter_0 0 rfl ?_
  refine rhF.bipush (pc := 1) (v := 97) dX8_isLetter_1 (by decide) ?_
  refine rhF.icmp_lt (pc := 3) 16 dX8_isLetter_3 (by decide) (fun h1 => ?_) (fun h1 => ?_)
  · refine rhF.iconst (pc := 16) (v := 0) dX8_isLetter_16 (by decide) ?_
    exact rhF.zret (pc := 17) dX8_isLetter_17 rfl rfl rfl
  · refine rhF.iload_n (pc := 6) dX8_isLetter_6 0 rfl ?_
    refine rhF.bipush (pc := 7) (v := 122) dX8_isLetter_7 (by decide) ?_
    refine rhF.icmp_gt (pc := 9) 16 dX8_isLetter_9 (by decide) (fun h2 => ?_) (fun h2 => ?_)
    · refine rhF.iconst (pc := 16) (v := 0) dX8_isLetter_16 (by decide) ?_
      exact rhF.zret (pc := 17) dX8_isLetter_17 rfl rfl rfl
    · refine rhF.iconst (pc := 12) (v := 1) dX8_isLetter_12 (by decide) ?_
      refine rhF.goto (pc := 13) 17 dX8_isLetter_13 (by decide) ?_
      exact rhF.zret (pc := 17) dX8_isLetter_17 rfl rfl rfl
theorem c_X8_isLetter (E : rhE) (Γ : rhG) (M : rhM) (v0 : Int32) : ∀ a, f_X8_isLetter Γ M v0 = some a → rhC E 1 yX8_isLetter cX8_isLetter 1 (some .boolean) [rhI v0] Γ M ((rhe0I Γ M) a) := rhF.met (by decide +kernel) (Nat.le_of_ble_eq_true rfl) (b_X8_isLetter v0)
def f_X8_readNumber_68 (k5 : rhM → Nat → Option (rhM)) (Γ : rhG) (M : rhM) (v0 : Nat) : Option (rhM) :=
  rhck (Γ.2.2.1 v0 = 9) <|
  let M12 := rhsi M v0 3 ((M.1 v0 3) + 1)
  k5 M12 v0
def f_X8_readNumber_5 (k81 : rhM → Nat → Option (rhM)) (Γ : rhG) : Nat → rhM → Nat → Option (rhM)
  | 0, _, _ => none
  | n + 1, M, v0 =>
    rhck (Γ.2.2.1 v0 = 9) <|
    if (M.1 v0 3) < (M.1 v0 2) then
      (rhck (Γ.2.2.1 (M.2.2 v0 1) = 14) <|
      rhck (0 ≤ (M.1 v0 3).toInt ∧ (M.1 v0 3).toInt < (Γ.2.2.2 (M.2.2 v0 1) : Nat)) <|
      (f_X8_isDigit Γ M (M.1 (M.2.2 v0 1) (M.1 v0 3).toNatClampNeg)).bind fun r7 =>
      if r7 = 0 then
        (k81 M v0)
      else
        if ((M.1 v0 3) - (M.1 v0 5)) < 4 then
          (let M10 := rhsi M v0 8 ((((M.1 v0 8) * 10) + (M.1 (M.2.2 v0 1) (M.1 v0 3).toNatClampNeg)) - 48)
          f_X8_readNumber_68 (f_X8_readNumber_5 k81 Γ n) Γ M10 v0)
        else
          f_X8_readNumber_68 (f_X8_readNumber_5 k81 Γ n) Γ M v0)
    else
      k81 M v0
def f_X8_readNumber_111 (k112 : rhM → Nat → Int32 → Option (rhM)) (Γ : rhG) (M : rhM) (v0 : Nat) : Option (rhM) :=
  k112 M v0 0
def f_X8_readNumber_131 (k136 : rhM → Nat → Int32 → Option (rhM)) (Γ : rhG) (M : rhM) (s0 : Nat) : Option (rhM) :=
  k136 M s0 1
def f_X8_readNumber_136 (Γ : rhG) (M : rhM) (s0 : Nat) (s1 : Int32) : Option (rhM) :=
  rhck (Γ.2.2.1 s0 = 9) <|
  let M22 := rhsi M s0 4 s1
  some M22
def f_X8_readNumber_112 (Γ : rhG) (M : rhM) (v0 : Nat) (s0 : Int32) : Option (rhM) :=
  rhck (Γ.2.2.1 v0 = 9) <|
  if 4 < ((M.1 v0 3) - (M.1 v0 5)) then
    (f_X8_readNumber_131 (f_X8_readNumber_136 Γ) Γ M v0)
  else
    if s0 = 0 then
      (f_X8_readNumber_136 Γ M v0 4)
    else
      f_X8_readNumber_131 (f_X8_readNumber_136 Γ) Γ M v0
def f_X8_readNumber_81 (Γ : rhG) (M : rhM) (v0 : Nat) : Option (rhM) :=
  rhck (Γ.2.2.1 v0 = 9) <|
  if (M.1 v0 3) < (M.1 v0 2) then
    (rhck (Γ.2.2.1 (M.2.2 v0 1) = 14) <|
    rhck (0 ≤ (M.1 v0 3).toInt ∧ (M.1 v0 3).toInt < (Γ.2.2.2 (M.2.2 v0 1) : Nat)) <|
    (f_X8_isLetter Γ M (M.1 (M.2.2 v0 1) (M.1 v0 3).toNatClampNeg)).bind fun r17 =>
    if r17 = 0 then
      (f_X8_readNumber_111 (f_X8_readNumber_112 Γ) Γ M v0)
    else
      f_X8_readNumber_112 Γ M v0 1)
  else
    f_X8_readNumber_111 (f_X8_readNumber_112 Γ) Γ M v0
def f_X8_readNumber (Γ : rhG) (M : rhM) (v0 : Nat) : Option (rhM) :=
  rhck (Γ.2.2.1 v0 = 9) <|
  let M2 := rhsi M v0 8 0
  f_X8_readNumber_5 (f_X8_readNumber_81 Γ) Γ rhFU M2 v0
set_option maxHeartbeats 4000000 in
set_option maxRecDepth 100000 in
theorem b_X8_readNumber_68 {E : rhE} {Γ : rhG} {k5 : rhM → Nat → Option (rhM)} (hk5 : ∀ (M : rhM) (v0 : Nat), rhF E 5 2 yX8_readNumber cX8_readNumber none Γ (rhe1U Γ) (k5 M v0) 5 [(0, rhR v0)] [] Γ M) : ∀ (M : rhM) (v0 : Nat), rhF E 5 2 yX8_readNumber cX8_readNumber none Γ (rhe1U Γ) (f_X8_readNumber_68 k5 Γ M v0) 68 [(0, rhR v0)] [] Γ M := by
  intro M v0
  rw [f_X8_readNumber_68]
  refine rhF.aload_n (pc := 68) dX8_readNumber_68 0 rfl ?_
  refine rhF.dupr (pc := 69) dX8_readNumber_69 ?_
  refine rhF.ck (fun h11 => ?_)
  refine rhF.get (pc := 70) (rhI _) dX8_readNumber_70 fl_X8_41 h11 rfl ?_
  refine rhF.iconst (pc := 73) (v := 1) dX8_readNumber_73 (by decide) ?_
  refine rhF.iadd (pc := 74) dX8_readNumber_74 ?_
  refine rhF.puti (pc := 75) dX8_readNumber_75 fl_X8_41 h11 (fun q hq => by cases hq; exact Or.inl rfl) ⟨rfl, rfl⟩ (fun _ => rfl) ?_
  refine rhF.goto (pc := 78) 5 dX8_readNumber_78 (by decide) ?_
  exact hk5 _ _
set_option maxHeartbeats 4000000 in
set_option maxRecDepth 100000 in
theorem b_X8_readNumber_5 {E : rhE} {Γ : rhG} {k81 : rhM → Nat → Option (rhM)} (hk81 : ∀ (M : rhM) (v0 : Nat), rhF E 5 2 yX8_readNumber cX8_readNumber none Γ (rhe1U Γ) (k81 M v0) 81 [(0, rhR v0)] [] Γ M) : ∀ (n : Nat) (M : rhM) (v0 : Nat), rhF E 5 2 yX8_readNumber cX8_readNumber none Γ (rhe1U Γ) (f_X8_readNumber_5 k81 Γ n M v0) 5 [(0, rhR v0)] [] Γ M := by
  intro n
  induction n with
  | zero => intro M v0; rw [f_X8_readNumber_5]; exact rhF.nope
  | succ n ih =>
    intro M v0
    rw [f_X8_readNumber_5]
    refine rhF.aload_n (pc := 5) dX8_readNumber_5 0 rfl ?_
    refine rhF.ck (fun h3 => ?_)
    refine rhF.get (pc := 6) (rhI _) dX8_readNumber_6 fl_X8_41 h3 rfl ?_
    refine rhF.aload_n (pc := 9) dX8_readNumber_9 0 rfl ?_
    refine rhF.get (pc := 10) (rhI _) dX8_readNumber_10 fl_X8_37 h3 rfl ?_
    refine rhF.icmp_ge (pc := 13) 81 dX8_readNumber_13 (by decide) (fun h4 => ?_) (fun h4 => ?_)
    · refine rhF.aload_n (pc := 16) dX8_readNumber_16 0 rfl ?_
      refine rhF.get (pc := 17) (rhR _) dX8_readNumber_17 fl_X8_15 h3 rfl ?_
      refine rhF.aload_n (pc := 20) dX8_readNumber_20 0 rfl ?_
      refine rhF.get (pc := 21) (rhI _) dX8_readNumber_21 fl_X8_41 h3 rfl ?_
      refine rhF.ck (fun h5 => ?_)
      refine rhF.ck (fun h6 => ?_)
      refine rhF.bald (pc := 24) dX8_readNumber_24 h5 h6 ?_
      refine rhF.callS (pc := 25) (embc := rhe0I _ _) [rhI _] dX8_readNumber_25 ml_X8_66 ms_X8_isDigit (c_X8_isDigit _ _ _ _) (by decide) (by decide) rfl (Nat.le_of_ble_eq_true rfl) (fun r7 _ => ?_)
      refine rhF.if_eq (pc := 28) 81 dX8_readNumber_28 (by decide) (fun h8 => ?_) (fun h8 => ?_)
      · exact hk81 _ _
      · refine rhF.aload_n (pc := 31) dX8_readNumber_31 0 rfl ?_
        refine rhF.get (pc := 32) (rhI _) dX8_readNumber_32 fl_X8_41 h3 rfl ?_
        refine rhF.aload_n (pc := 35) dX8_readNumber_35 0 rfl ?_
        refine rhF.get (pc := 36) (rhI _) dX8_readNumber_36 fl_X8_53 h3 rfl ?_
        refine rhF.isub (pc := 39) dX8_readNumber_39 ?_
        refine rhF.iconst (pc := 40) (v := 4) dX8_readNumber_40 (by decide) ?_
        refine rhF.icmp_ge (pc := 41) 68 dX8_readNumber_41 (by decide) (fun h9 => ?_) (fun h9 => ?_)
        · refine rhF.aload_n (pc := 44) dX8_readNumber_44 0 rfl ?_
          refine rhF.aload_n (pc := 45) dX8_readNumber_45 0 rfl ?_
          refine rhF.get (pc := 46) (rhI _) dX8_readNumber_46 fl_X8_79 h3 rfl ?_
          refine rhF.bipush (pc := 49) (v := 10) dX8_readNumber_49 (by decide) ?_
          refine rhF.imul (pc := 51) dX8_readNumber_51 ?_
          refine rhF.aload_n (pc := 52) dX8_readNumber_52 0 rfl ?_
          refine rhF.get (pc := 53) (rhR _) dX8_readNumber_53 fl_X8_15 h3 rfl ?_
          refine rhF.aload_n (pc := 56) dX8_readNumber_56 0 rfl ?_
          refine rhF.get (pc := 57) (rhI _) dX8_readNumber_57 fl_X8_41 h3 rfl ?_
          refine rhF.bald (pc := 60) dX8_readNumber_60 h5 h6 ?_
          refine rhF.iadd (pc := 61) dX8_readNumber_61 ?_
          refine rhF.bipush (pc := 62) (v := 48) dX8_readNumber_62 (by decide) ?_
          refine rhF.isub (pc := 64) dX8_readNumber_64 ?_
          refine rhF.puti (pc := 65) dX8_readNumber_65 fl_X8_79 h3 (fun q hq => by cases hq; exact Or.inl rfl) ⟨rfl, rfl⟩ (fun _ => rfl) ?_
          exact (b_X8_readNumber_68 ih) _ _
        · exact (b_X8_readNumber_68 ih) _ _
    · exact hk81 _ _
set_option maxHeartbeats 4000000 in
set_option maxRecDepth 100000 in
theorem b_X8_readNumber_111 {E : rhE} {Γ : rhG} {k112 : rhM → Nat → Int32 → Option (rhM)} (hk112 : ∀ (M : rhM) (v0 : Nat) (s0 : Int32), rhF E 5 2 yX8_readNumber cX8_readNumber none Γ (rhe1U Γ) (k112 M v0 s0) 112 [(0, rhR v0)] [rhI s0] Γ M) : ∀ (M : rhM) (v0 : Nat), rhF E 5 2 yX8_readNumber cX8_readNumber none Γ (rhe1U Γ) (f_X8_readNumber_111 k112 Γ M v0) 111 [(0, rhR v0)] [] Γ M := by
  intro M v0
  rw [f_X8_readNumber_111]
  refine rhF.iconst (pc := 111) (v := 0) dX8_readNumber_111 (by decide) ?_
  exact hk112 _ _ _
set_option maxHeartbeats 4000000 in
set_option maxRecDepth 100000 in
theorem b_X8_readNumber_131 {E : rhE} {Γ : rhG} {k136 : rhM → Nat → Int32 → Option (rhM)} (hk136 : ∀ (M : rhM) (s0 : Nat) (s1 : Int32), rhF E 5 2 yX8_readNumber cX8_readNumber none Γ (rhe1U Γ) (k136 M s0 s1) 136 [] [rhI s1, rhR s0] Γ M) : ∀ (M : rhM) (s0 : Nat), rhF E 5 2 yX8_readNumber cX8_readNumber none Γ (rhe1U Γ) (f_X8_readNumber_131 k136 Γ M s0) 131 [] [rhR s0] Γ M := by
  intro M s0
  rw [f_X8_readNumber_131]
  refine rhF.iconst (pc := 131) (v := 1) dX8_readNumber_131 (by decide) ?_
  refine rhF.goto (pc := 132) 136 dX8_readNumber_132 (by decide) ?_
  exact hk136 _ _ _
set_option maxHeartbeats 4000000 in
set_option maxRecDepth 100000 in
theorem b_X8_readNumber_136 {E : rhE} {Γ : rhG} : ∀ (M : rhM) (s0 : Nat) (s1 : Int32), rhF E 5 2 yX8_readNumber cX8_readNumber none Γ (rhe1U Γ) (f_X8_readNumber_136 Γ M s0 s1) 136 [] [rhI s1, rhR s0] Γ M := by
  intro M s0 s1
  rw [f_X8_readNumber_136]
  refine rhF.ck (fun h21 => ?_)
  refine rhF.puti (pc := 136) dX8_readNumber_136 fl_X8_56 h21 (fun q hq => by cases hq; exact Or.inl rfl) ⟨rfl, rfl⟩ (fun _ => rfl) ?_
  exact rhF.vret (pc := 139) dX8_readNumber_139 rfl rfl
set_option maxHeartbeats 4000000 in
set_option maxRecDepth 100000 in
theorem b_X8_readNumber_112 {E : rhE} {Γ : rhG} : ∀ (M : rhM) (v0 : Nat) (s0 : Int32), rhF E 5 2 yX8_readNumber cX8_readNumber none Γ (rhe1U Γ) (f_X8_readNumber_112 Γ M v0 s0) 112 [(0, rhR v0)] [rhI s0] Γ M := by
  intro M v0 s0
  rw [f_X8_readNumber_112]
  refine rhF.istore_n (pc := 112) (L' := [(1, rhI _), (0, rhR _)]) dX8_readNumber_112 (by decide) rfl ?_
  refine rhF.aload_n (pc := 113) dX8_readNumber_113 1 rfl ?_
  refine rhF.aload_n (pc := 114) dX8_readNumber_114 1 rfl ?_
  refine rhF.ck (fun h19 => ?_)
  refine rhF.get (pc := 115) (rhI _) dX8_readNumber_115 fl_X8_41 h19 rfl ?_
  refine rhF.aload_n (pc := 118) dX8_readNumber_118 1 rfl ?_
  refine rhF.get (pc := 119) (rhI _) dX8_readNumber_119 fl_X8_53 h19 rfl ?_
  refine rhF.isub (pc := 122) dX8_readNumber_122 ?_
  refine rhF.iconst (pc := 123) (v := 4) dX8_readNumber_123 (by decide) ?_
  refine rhF.icmp_gt (pc := 124) 131 dX8_readNumber_124 (by decide) (fun h20 => ?_) (fun h20 => ?_)
  · refine rhF.sub [] rfl ?_
    exact (b_X8_readNumber_131 (b_X8_readNumber_136)) _ _
  · refine rhF.iload_n (pc := 127) dX8_readNumber_127 0 rfl ?_
    refine rhF.if_eq (pc := 128) 135 dX8_readNumber_128 (by decide) (fun h23 => ?_) (fun h23 => ?_)
    · refine rhF.iconst (pc := 135) (v := 4) dX8_readNumber_135 (by decide) ?_
      refine rhF.sub [] rfl ?_
      exact (b_X8_readNumber_136) _ _ _
    · refine rhF.sub [] rfl ?_
      exact (b_X8_readNumber_131 (b_X8_readNumber_136)) _ _
set_option maxHeartbeats 4000000 in
set_option maxRecDepth 100000 in
theorem b_X8_readNumber_81 {E : rhE} {Γ : rhG} : ∀ (M : rhM) (v0 : Nat), rhF E 5 2 yX8_readNumber cX8_readNumber none Γ (rhe1U Γ) (f_X8_readNumber_81 Γ M v0) 81 [(0, rhR v0)] [] Γ M := by
  intro M v0
  rw [f_X8_readNumber_81]
  refine rhF.aload_n (pc := 81) dX8_readNumber_81 0 rfl ?_
  refine rhF.ck (fun h13 => ?_)
  refine rhF.get (pc := 82) (rhI _) dX8_readNumber_82 fl_X8_41 h13 rfl ?_
  refine rhF.aload_n (pc := 85) dX8_readNumber_85 0 rfl ?_
  refine rhF.get (pc := 86) (rhI _) dX8_readNumber_86 fl_X8_37 h13 rfl ?_
  refine rhF.icmp_ge (pc := 89) 111 dX8_readNumber_89 (by decide) (fun h14 => ?_) (fun h14 => ?_)
  · refine rhF.aload_n (pc := 92) dX8_readNumber_92 0 rfl ?_
    refine rhF.get (pc := 93) (rhR _) dX8_readNumber_93 fl_X8_15 h13 rfl ?_
    refine rhF.aload_n (pc := 96) dX8_readNumber_96 0 rfl ?_
    refine rhF.get (pc := 97) (rhI _) dX8_readNumber_97 fl_X8_41 h13 rfl ?_
    refine rhF.ck (fun h15 => ?_)
    refine rhF.ck (fun h16 => ?_)
    refine rhF.bald (pc := 100) dX8_readNumber_100 h15 h16 ?_
    refine rhF.callS (pc := 101) (embc := rhe0I _ _) [rhI _] dX8_readNumber_101 ml_X8_59 ms_X8_isLetter (c_X8_isLetter _ _ _ _) (by decide) (by decide) rfl (Nat.le_of_ble_eq_true rfl) (fun r17 _ => ?_)
    refine rhF.if_eq (pc := 104) 111 dX8_readNumber_104 (by decide) (fun h18 => ?_) (fun h18 => ?_)
    · exact (b_X8_readNumber_111 (b_X8_readNumber_112)) _ _
    · refine rhF.iconst (pc := 107) (v := 1) dX8_readNumber_107 (by decide) ?_
      refine rhF.goto (pc := 108) 112 dX8_readNumber_108 (by decide) ?_
      exact (b_X8_readNumber_112) _ _ _
  · exact (b_X8_readNumber_111 (b_X8_readNumber_112)) _ _
set_option maxHeartbeats 4000000 in
set_option maxRecDepth 100000 in
theorem b_X8_readNumber {E : rhE} {Γ : rhG} : ∀ (M : rhM) (v0 : Nat), rhF E 5 2 yX8_readNumber cX8_readNumber none Γ (rhe1U Γ) (f_X8_readNumber Γ M v0) 0 [(0, rhR v0)] [] Γ M := by
  intro M v0
  rw [f_X8_readNumber]
  refine rhF.aload_n (pc := 0) dX8_readNumber_0 0 rfl ?_
  refine rhF.iconst (pc := 1) (v := 0) dX8_readNumber_1 (by decide) ?_
  refine rhF.ck (fun h1 => ?_)
  refine rhF.puti (pc := 2) dX8_readNumber_2 fl_X8_79 h1 (fun q hq => by cases hq; exact Or.inl rfl) ⟨rfl, rfl⟩ (fun _ => rfl) ?_
  exact (b_X8_readNumber_5 (b_X8_readNumber_81) rhFU) _ _
theorem c_X8_readNumber (E : rhE) (Γ : rhG) (M : rhM) (v0 : Nat) : ∀ a, f_X8_readNumber Γ M v0 = some a → rhC E 5 yX8_readNumber cX8_readNumber 2 none [rhR v0] Γ M ((rhe1U Γ) a) := rhF.met (by decide +kernel) (Nat.le_of_ble_eq_true rfl) (b_X8_readNumber M v0)
def f_X8_readSign_52 (k7 : rhM → Nat → Int32 → Option (rhM)) (Γ : rhG) (M : rhM) (v0 : Nat) (v1 : Int32) : Option (rhM) :=
  let x12 : Int32 := v1 + 1
  k7 M v0 x12
def f_X8_readSign_7 (k58 : rhM → Nat → Option (rhM)) (Γ : rhG) : Nat → rhM → Nat → Int32 → Option (rhM)
  | 0, _, _, _ => none
  | n + 1, M, v0, v1 =>
    if v1 < (Int32.ofNat rhby1.length) then
      (rhck (0 ≤ (v1).toInt ∧ (v1).toInt < (rhby1.length : Nat)) <|
      rhck (Γ.2.2.1 v0 = 9) <|
      rhck (Γ.2.2.1 (M.2.2 v0 1) = 14) <|
      rhck (0 ≤ (M.1 v0 3).toInt ∧ (M.1 v0 3).toInt < (Γ.2.2.2 (M.2.2 v0 1) : Nat)) <|
      if (rhby1.getD v1.toNatClampNeg 0) = (M.1 (M.2.2 v0 1) (M.1 v0 3).toNatClampNeg) then
        (let M9 := rhsi M v0 4 5
        rhck (0 ≤ (M9.1 v0 3).toInt ∧ (M9.1 v0 3).toInt < (Γ.2.2.2 (M.2.2 v0 1) : Nat)) <|
        let M11 := rhsi M9 v0 9 (M9.1 (M.2.2 v0 1) (M9.1 v0 3).toNatClampNeg)
        f_X8_readSign_52 (f_X8_readSign_7 k58 Γ n) Γ M11 v0 v1)
      else
        f_X8_readSign_52 (f_X8_readSign_7 k58 Γ n) Γ M v0 v1)
    else
      k58 M v0
def f_X8_readSign_58 (Γ : rhG) (M : rhM) (v0 : Nat) : Option (rhM) :=
  rhck (Γ.2.2.1 v0 = 9) <|
  let M14 := rhsi M v0 3 ((M.1 v0 3) + 1)
  some M14
def f_X8_readSign (Γ : rhG) (M : rhM) (v0 : Nat) : Option (rhM) :=
  rhck (Γ.2.2.1 v0 = 9) <|
  let M2 := rhsi M v0 4 1
  f_X8_readSign_7 (f_X8_readSign_58 Γ) Γ rhFU M2 v0 0
set_option maxHeartbeats 4000000 in
set_option maxRecDepth 100000 in
theorem b_X8_readSign_52 {E : rhE} {Γ : rhG} {k7 : rhM → Nat → Int32 → Option (rhM)} (hk7 : ∀ (M : rhM) (v0 : Nat) (v1 : Int32), rhF E 5 2 yX8_readSign cX8_readSign none Γ (rhe1U Γ) (k7 M v0 v1) 7 [(0, rhR v0), (1, rhI v1)] [] Γ M) : ∀ (M : rhM) (v0 : Nat) (v1 : Int32), rhF E 5 2 yX8_readSign cX8_readSign none Γ (rhe1U Γ) (f_X8_readSign_52 k7 Γ M v0 v1) 52 [(0, rhR v0), (1, rhI v1)] [] Γ M := by
  intro M v0 v1
  rw [f_X8_readSign_52]
  refine rhF.iinc (pc := 52) (L' := [(1, rhI _), (0, rhR _)]) dX8_readSign_52 1 rfl rfl (by decide) rfl ?_
  refine rhF.goto (pc := 55) 7 dX8_readSign_55 (by decide) ?_
  refine rhF.sub [1, 0] rfl ?_
  exact hk7 _ _ _
set_option maxHeartbeats 4000000 in
set_option maxRecDepth 100000 in
theorem b_X8_readSign_7 {E : rhE} {Γ : rhG} {k58 : rhM → Nat → Option (rhM)} (hk58 : ∀ (M : rhM) (v0 : Nat), rhF E 5 2 yX8_readSign cX8_readSign none Γ (rhe1U Γ) (k58 M v0) 58 [(0, rhR v0)] [] Γ M) : ∀ (n : Nat) (M : rhM) (v0 : Nat) (v1 : Int32), rhF E 5 2 yX8_readSign cX8_readSign none Γ (rhe1U Γ) (f_X8_readSign_7 k58 Γ n M v0 v1) 7 [(0, rhR v0), (1, rhI v1)] [] Γ M := by
  intro n
  induction n with
  | zero => intro M v0 v1; rw [f_X8_readSign_7]; exact rhF.nope
  | succ n ih =>
    intro M v0 v1
    rw [f_X8_readSign_7]
    refine rhF.iload_n (pc := 7) dX8_readSign_7 1 rfl ?_
    refine rhF.strlen82 (pc := 8) rfl (by decide) (Nat.le_of_ble_eq_true rfl) dX8_readSign_8 dX8_readSign_10 ml_X8_21 ?_
    refine rhF.icmp_ge (pc := 13) 58 dX8_readSign_13 (by decide) (fun h3 => ?_) (fun h3 => ?_)
    · refine rhF.ck (fun h4 => ?_)
      refine rhF.strchar82 (pc := 16) rfl (by decide) (Nat.le_of_ble_eq_true rfl) dX8_readSign_16 dX8_readSign_18 1 rfl dX8_readSign_19 ml_X8_27 h4 ?_
      refine rhF.aload_n (pc := 22) dX8_readSign_22 0 rfl ?_
      refine rhF.ck (fun h5 => ?_)
      refine rhF.get (pc := 23) (rhR _) dX8_readSign_23 fl_X8_15 h5 rfl ?_
      refine rhF.aload_n (pc := 26) dX8_readSign_26 0 rfl ?_
      refine rhF.get (pc := 27) (rhI _) dX8_readSign_27 fl_X8_41 h5 rfl ?_
      refine rhF.ck (fun h6 => ?_)
      refine rhF.ck (fun h7 => ?_)
      refine rhF.bald (pc := 30) dX8_readSign_30 h6 h7 ?_
      refine rhF.icmp_ne (pc := 31) 52 dX8_readSign_31 (by decide) (fun h8 => ?_) (fun h8 => ?_)
      · refine rhF.aload_n (pc := 34) dX8_readSign_34 0 rfl ?_
        refine rhF.iconst (pc := 35) (v := 5) dX8_readSign_35 (by decide) ?_
        refine rhF.puti (pc := 36) dX8_readSign_36 fl_X8_56 h5 (fun q hq => by cases hq; exact Or.inl rfl) ⟨rfl, rfl⟩ (fun _ => rfl) ?_
        refine rhF.aload_n (pc := 39) dX8_readSign_39 0 rfl ?_
        refine rhF.aload_n (pc := 40) dX8_readSign_40 0 rfl ?_
        refine rhF.get (pc := 41) (rhR _) dX8_readSign_41 fl_X8_15 h5 rfl ?_
        refine rhF.aload_n (pc := 44) dX8_readSign_44 0 rfl ?_
        refine rhF.get (pc := 45) (rhI _) dX8_readSign_45 fl_X8_41 h5 rfl ?_
        refine rhF.ck (fun h10 => ?_)
        refine rhF.bald (pc := 48) dX8_readSign_48 h6 h10 ?_
        refine rhF.puti (pc := 49) dX8_readSign_49 fl_X8_50 h5 (fun q hq => by cases hq; exact Or.inl rfl) ⟨rfl, rfl⟩ (fun _ => rfl) ?_
        exact (b_X8_readSign_52 ih) _ _ _
      · exact (b_X8_readSign_52 ih) _ _ _
    · refine rhF.sub [0] rfl ?_
      exact hk58 _ _
set_option maxHeartbeats 4000000 in
set_option maxRecDepth 100000 in
theorem b_X8_readSign_58 {E : rhE} {Γ : rhG} : ∀ (M : rhM) (v0 : Nat), rhF E 5 2 yX8_readSign cX8_readSign none Γ (rhe1U Γ) (f_X8_readSign_58 Γ M v0) 58 [(0, rhR v0)] [] Γ M := by
  intro M v0
  rw [f_X8_readSign_58]
  refine rhF.aload_n (pc := 58) dX8_readSign_58 0 rfl ?_
  refine rhF.dupr (pc := 59) dX8_readSign_59 ?_
  refine rhF.ck (fun h13 => ?_)
  refine rhF.get (pc := 60) (rhI _) dX8_readSign_60 fl_X8_41 h13 rfl ?_
  refine rhF.iconst (pc := 63) (v := 1) dX8_readSign_63 (by decide) ?_
  refine rhF.iadd (pc := 64) dX8_readSign_64 ?_
  refine rhF.puti (pc := 65) dX8_readSign_65 fl_X8_41 h13 (fun q hq => by cases hq; exact Or.inl rfl) ⟨rfl, rfl⟩ (fun _ => rfl) ?_
  exact rhF.vret (pc := 68) dX8_readSign_68 rfl rfl
set_option maxHeartbeats 4000000 in
set_option maxRecDepth 100000 in
theorem b_X8_readSign {E : rhE} {Γ : rhG} : ∀ (M : rhM) (v0 : Nat), rhF E 5 2 yX8_readSign cX8_readSign none Γ (rhe1U Γ) (f_X8_readSign Γ M v0) 0 [(0, rhR v0)] [] Γ M := by
  intro M v0
  rw [f_X8_readSign]
  refine rhF.aload_n (pc := 0) dX8_readSign_0 0 rfl ?_
  refine rhF.iconst (pc := 1) (v := 1) dX8_readSign_1 (by decide) ?_
  refine rhF.ck (fun h1 => ?_)
  refine rhF.puti (pc := 2) dX8_readSign_2 fl_X8_56 h1 (fun q hq => by cases hq; exact Or.inl rfl) ⟨rfl, rfl⟩ (fun _ => rfl) ?_
  refine rhF.iconst (pc := 5) (v := 0) dX8_readSign_5 (by decide) ?_
  refine rhF.istore_n (pc := 6) (L' := [(1, rhI _), (0, rhR _)]) dX8_readSign_6 (by decide) rfl ?_
  refine rhF.sub [1, 0] rfl ?_
  exact (b_X8_readSign_7 (b_X8_readSign_58) rhFU) _ _ _
theorem c_X8_readSign (E : rhE) (Γ : rhG) (M : rhM) (v0 : Nat) : ∀ a, f_X8_readSign Γ M v0 = some a → rhC E 5 yX8_readSign cX8_readSign 2 none [rhR v0] Γ M ((rhe1U Γ) a) := rhF.met (by decide +kernel) (Nat.le_of_ble_eq_true rfl) (b_X8_readSign M v0)
