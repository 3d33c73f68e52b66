def f_X11_image (Γ : rhG) (M : rhM) (v0 : Nat) (v1 : Int32) : Option (Int32 × rhG × rhM) :=
  if v1 < 0 then
    (some (((-1), Γ, M)))
  else
    if v1 < 3 then
      (rhck (Γ.2.2.1 v0 = 12) <|
      rhck (Γ.2.2.1 (M.2.2 v0 5) = 8) <|
      rhck (Γ.2.2.1 (M.2.2 v0 12) = 16) <|
      rhck (0 ≤ (v1).toInt ∧ (v1).toInt < (Γ.2.2.2 (M.2.2 v0 12) : Nat)) <|
      let M7 := rhsl M (M.2.2 v0 12) (v1 : Int32).toNatClampNeg (M.2.1 (M.2.2 v0 5) 0)
      rhck (Γ.2.2.1 (M.2.2 v0 13) = 18) <|
      rhck (0 ≤ (v1).toInt ∧ (v1).toInt < (Γ.2.2.2 (M.2.2 v0 13) : Nat)) <|
      rhck (Γ.2.2.1 (M.2.2 (M.2.2 v0 13) v1.toNatClampNeg) = 4) <|
      (f_X3_copy Γ M7 (M.2.2 (M.2.2 v0 13) v1.toNatClampNeg) (M.2.2 v0 7)).bind fun r11 =>
      rhck (r11.1.2.2.1 v0 = 12) <|
      rhck (r11.1.2.2.1 (r11.2.2.2 v0 7) = 4) <|
      some ((r11.2.1 (r11.2.2.2 v0 7) 1, r11.1, r11.2)))
    else
      some (((-1), Γ, M))
set_option maxHeartbeats 4000000 in
set_option maxRecDepth 100000 in
theorem b_X11_image {E : rhE} {Γ0 : rhG} : ∀ (Γ : rhG) (M : rhM) (v0 : Nat) (v1 : Int32), rhF E 7 2 yX11_image cX11_image (some .int) Γ0 rhe2I (f_X11_image Γ M v0 v1) 0 [(0, rhR v0), (1, rhI v1)] [] Γ M := by
  intro Γ M v0 v1
  rw [f_X11_image]
  refine rhF.iload_n (pc := 0) dX11_image_0 1 rfl ?_
  refine rhF.if_lt (pc := 1) 9 dX11_image_1 (by decide) (fun h1 => ?_) (fun h1 => ?_)
  · refine rhF.iconst (pc := 9) (v := (-1)) dX11_image_9 (by decide) ?_
    exact rhF.zret (pc := 10) dX11_image_10 rfl rfl rfl
  · refine rhF.iload_n (pc := 4) dX11_image_4 1 rfl ?_
    refine rhF.iconst (pc := 5) (v := 3) dX11_image_5 (by decide) ?_
    refine rhF.icmp_lt (pc := 6) 11 dX11_image_6 (by decide) (fun h2 => ?_) (fun h2 => ?_)
    · refine rhF.aload_n (pc := 11) dX11_image_11 0 rfl ?_
      refine rhF.ck (fun h3 => ?_)
      refine rhF.get (pc := 12) (rhR _) dX11_image_12 fl_X11_55 h3 rfl ?_
      refine rhF.iload_n (pc := 15) dX11_image_15 1 rfl ?_
      refine rhF.aload_n (pc := 16) dX11_image_16 0 rfl ?_
      refine rhF.get (pc := 17) (rhR _) dX11_image_17 fl_X11_33 h3 rfl ?_
      refine rhF.ck (fun h4 => ?_)
      refine rhF.get (pc := 20) (rhJ _) dX11_image_20 fl_X11_207 h4 rfl ?_
      refine rhF.ck (fun h5 => ?_)
      refine rhF.ck (fun h6 => ?_)
      refine rhF.last (pc := 23) dX11_image_23 h5 h6 ?_
      refine rhF.aload_n (pc := 24) dX11_image_24 0 rfl ?_
      refine rhF.get (pc := 25) (rhR _) dX11_image_25 fl_X11_59 h3 rfl ?_
      refine rhF.iload_n (pc := 28) dX11_image_28 1 rfl ?_
      refine rhF.ck (fun h8 => ?_)
      refine rhF.ck (fun h9 => ?_)
      refine rhF.aldP (pc := 29) dX11_image_29 h8 h9 ?_
      refine rhF.aload_n (pc := 30) dX11_image_30 0 rfl ?_
      refine rhF.get (pc := 31) (rhR _) dX11_image_31 fl_X11_45 h3 rfl ?_
      refine rhF.ck (fun h10 => ?_)
      refine rhF.callV (pc := 34) (ci := 3) (embc := rhe2U) [rhR _] dX11_image_34 ml_X11_300 mv_X3_copy ⟨_, rfl, rfl⟩ h10 (c_X3_copy _ _ _ _ _) (by decide) (by decide) rfl (Nat.le_of_ble_eq_true rfl) (fun r11 _ => ?_)
      refine rhF.aload_n (pc := 37) dX11_image_37 0 rfl ?_
      refine rhF.ck (fun h12 => ?_)
      refine rhF.get (pc := 38) (rhR _) dX11_image_38 fl_X11_45 h12 rfl ?_
      refine rhF.ck (fun h13 => ?_)
      refine rhF.get (pc := 41) (rhI _) dX11_image_41 fl_X11_184 h13 rfl ?_
      exact rhF.zret (pc := 44) dX11_image_44 rfl rfl rfl
    · refine rhF.iconst (pc := 9) (v := (-1)) dX11_image_9 (by decide) ?_
      exact rhF.zret (pc := 10) dX11_image_10 rfl rfl rfl
theorem c_X11_image (E : rhE) (Γ : rhG) (M : rhM) (v0 : Nat) (v1 : Int32) : ∀ a, f_X11_image Γ M v0 v1 = some a → rhC E 7 yX11_image cX11_image 2 (some .int) [rhR v0, rhI v1] Γ M (rhe2I a) := rhF.met (by decide +kernel) (Nat.le_of_ble_eq_true rfl) (b_X11_image (Γ0 := Γ) Γ M v0 v1)
def f_X11_fault (Γ : rhG) (M : rhM) (v0 : Nat) (v1 : Int32) : Option (Int32) :=
  if v1 = 0 then
    (rhck (Γ.2.2.1 v0 = 12) <|
    rhck (Γ.2.2.1 (M.2.2 v0 2) = 5) <|
    some (M.1 (M.2.2 v0 2) 0))
  else
  if v1 = 1 then
    (rhck (Γ.2.2.1 v0 = 12) <|
    rhck (Γ.2.2.1 (M.2.2 v0 2) = 5) <|
    if (M.1 (M.2.2 v0 2) 0) = 0 then
      (some ((-1)))
    else
      some (M.1 (M.2.2 v0 2) 1))
  else
  some ((-1))
set_option maxHeartbeats 4000000 in
set_option maxRecDepth 100000 in
theorem b_X11_fault {E : rhE} {Γ : rhG} {M : rhM} : ∀ (v0 : Nat) (v1 : Int32), rhF E 1 2 yX11_fault cX11_fault (some .int) Γ (rhe0I Γ M) (f_X11_fault Γ M v0 v1) 0 [(0, rhR v0), (1, rhI v1)] [] Γ M := by
  intro v0 v1
  rw [f_X11_fault]
  refine rhF.iload_n (pc := 0) dX11_fault_0 1 rfl ?_
  refine rhF.ite (fun h1 => ?_) (fun h1 => ?_)
  · refine rhF.ls (pc := 1) 28 dX11_fault_1 (by decide) (by rw [h1] <;> rfl) (by decide) ?_
    refine rhF.aload_n (pc := 28) dX11_fault_28 0 rfl ?_
    refine rhF.ck (fun h2 => ?_)
    refine rhF.get (pc := 29) (rhR _) dX11_fault_29 fl_X11_16 h2 rfl ?_
    refine rhF.ck (fun h3 => ?_)
    refine rhF.get (pc := 32) (rhI _) dX11_fault_32 fl_X11_107 h3 rfl ?_
    exact rhF.zret (pc := 35) dX11_fault_35 rfl rfl rfl
  · skip
    refine rhF.ite (fun h4 => ?_) (fun h4 => ?_)
    · refine rhF.ls (pc := 1) 36 dX11_fault_1 (by decide) (by rw [h4] <;> rfl) (by decide) ?_
      refine rhF.aload_n (pc := 36) dX11_fault_36 0 rfl ?_
      refine rhF.ck (fun h5 => ?_)
      refine rhF.get (pc := 37) (rhR _) dX11_fault_37 fl_X11_16 h5 rfl ?_
      refine rhF.ck (fun h6 => ?_)
      refine rhF.get (pc := 40) (rhI _) dX11_fault_40 fl_X11_107 h6 rfl ?_
      refine rhF.if_ne (pc := 43) 50 dX11_fault_43 (by decide) (fun h7 => ?_) (fun h7 => ?_)
      · refine rhF.iconst (pc := 46) (v := (-1)) dX11_fault_46 (by decide) ?_
        refine rhF.goto (pc := 47) 57 dX11_fault_47 (by decide) ?_
        exact rhF.zret (pc := 57) dX11_fault_57 rfl rfl rfl
      · refine rhF.aload_n (pc := 50) dX11_fault_50 0 rfl ?_
        refine rhF.get (pc := 51) (rhR _) dX11_fault_51 fl_X11_16 h5 rfl ?_
        refine rhF.get (pc := 54) (rhI _) dX11_fault_54 fl_X11_110 h6 rfl ?_
        exact rhF.zret (pc := 57) dX11_fault_57 rfl rfl rfl
    · skip
      refine rhF.ls (pc := 1) 58 dX11_fault_1 (by decide) (rhlkd _ _ _ (List.forall_mem_cons.mpr ⟨rhne h1 (n := 0) (by decide), List.forall_mem_cons.mpr ⟨rhne h4 (n := 1) (by decide), fun _ h => absurd h List.not_mem_nil⟩⟩)) (by decide) ?_
      refine rhF.iconst (pc := 58) (v := (-1)) dX11_fault_58 (by decide) ?_
      exact rhF.zret (pc := 59) dX11_fault_59 rfl rfl rfl
theorem c_X11_fault (E : rhE) (Γ : rhG) (M : rhM) (v0 : Nat) (v1 : Int32) : ∀ a, f_X11_fault Γ M v0 v1 = some a → rhC E 1 yX11_fault cX11_fault 2 (some .int) [rhR v0, rhI v1] Γ M ((rhe0I Γ M) a) := rhF.met (by decide +kernel) (Nat.le_of_ble_eq_true rfl) (b_X11_fault v0 v1)
def f_X11_open (Γ : rhG) (M : rhM) (v0 : Nat) : Option (Int32 × rhM) :=
  rhck (Γ.2.2.1 v0 = 12) <|
  let x2 := M.1 v0 11
  let M3 := rhsl M v0 10 ((0 : Int64))
  let M4 := rhsi M3 v0 11 0
  some ((x2, M4))
set_option maxHeartbeats 4000000 in
set_option maxRecDepth 100000 in
theorem b_X11_open {E : rhE} {Γ : rhG} : ∀ (M : rhM) (v0 : Nat), rhF E 1 2 yX11_open cX11_open (some .int) Γ (rhe1I Γ) (f_X11_open Γ M v0) 0 [(0, rhR v0)] [] Γ M := by
  intro M v0
  rw [f_X11_open]
  refine rhF.aload_n (pc := 0) dX11_open_0 0 rfl ?_
  refine rhF.ck (fun h1 => ?_)
  refine rhF.get (pc := 1) (rhI _) dX11_open_1 fl_X11_101 h1 rfl ?_
  refine rhF.istore_n (pc := 4) (L' := [(1, rhI _), (0, rhR _)]) dX11_open_4 (by decide) rfl ?_
  refine rhF.aload_n (pc := 5) dX11_open_5 1 rfl ?_
  refine rhF.lconst (pc := 6) (v := 0) dX11_open_6 (by decide) ?_
  refine rhF.putl (pc := 7) dX11_open_7 fl_X11_98 h1 (fun q hq => by cases hq; exact Or.inl rfl) ⟨rfl, rfl⟩ (fun _ => rfl) ?_
  refine rhF.aload_n (pc := 10) dX11_open_10 1 rfl ?_
  refine rhF.iconst (pc := 11) (v := 0) dX11_open_11 (by decide) ?_
  refine rhF.puti (pc := 12) dX11_open_12 fl_X11_101 h1 (fun q hq => by cases hq; exact Or.inl rfl) ⟨rfl, rfl⟩ (fun _ => rfl) ?_
  refine rhF.iload_n (pc := 15) dX11_open_15 0 rfl ?_
  exact rhF.zret (pc := 16) dX11_open_16 rfl rfl rfl
theorem c_X11_open (E : rhE) (Γ : rhG) (M : rhM) (v0 : Nat) : ∀ a, f_X11_open Γ M v0 = some a → rhC E 1 yX11_open cX11_open 2 (some .int) [rhR v0] Γ M ((rhe1I Γ) a) := rhF.met (by decide +kernel) (Nat.le_of_ble_eq_true rfl) (b_X11_open M v0)
def f_X11_tell (Γ : rhG) (M : rhM) (v0 : Nat) (v1 : Int32) (v2 : Int32) (v3 : Int32) : Option (Int32 × rhM) :=
  rhck (Γ.2.2.1 v0 = 12) <|
  (f_X11_areUnlikeRails Γ M v0 v1 v3).bind fun r2 =>
  if r2 = 0 then
    (some (((-1), M)))
  else
    if v2 < 1 then
      (some (((-1), M)))
    else
      if 8 < v2 then
        (some (((-1), M)))
      else
        (f_X3_code Γ M v1 v2 v3).bind fun r6 =>
        rhck (Γ.2.2.1 (M.2.2 v0 8) = 4) <|
        (f_X3_add Γ M (M.2.2 v0 8) r6).bind fun r8 =>
        if r8.1 = 0 then
          (some (((-1), r8.2)))
        else
          rhck (Γ.2.2.1 (r8.2.2.2 v0 8) = 4) <|
          some ((r8.2.1 (r8.2.2.2 v0 8) 1, r8.2))
set_option maxHeartbeats 4000000 in
set_option maxRecDepth 100000 in
theorem b_X11_tell {E : rhE} {Γ : rhG} : ∀ (M : rhM) (v0 : Nat) (v1 : Int32) (v2 : Int32) (v3 : Int32), rhF E 6 4 yX11_tell cX11_tell (some .int) Γ (rhe1I Γ) (f_X11_tell Γ M v0 v1 v2 v3) 0 [(0, rhR v0), (1, rhI v1), (2, rhI v2), (3, rhI v3)] [] Γ M := by
  intro M v0 v1 v2 v3
  rw [f_X11_tell]
  refine rhF.aload_n (pc := 0) dX11_tell_0 0 rfl ?_
  refine rhF.iload_n (pc := 1) dX11_tell_1 1 rfl ?_
  refine rhF.iload_n (pc := 2) dX11_tell_2 3 rfl ?_
  refine rhF.ck (fun h1 => ?_)
  refine rhF.callV (pc := 3) (ci := 11) (embc := rhe0I _ _) [rhI _, rhI _] dX11_tell_3 ml_X11_144 mv_X11_areUnlikeRails ⟨_, rfl, rfl⟩ h1 (c_X11_areUnlikeRails _ _ _ _ _ _) (by decide) (by decide) rfl (Nat.le_of_ble_eq_true rfl) (fun r2 _ => ?_)
  refine rhF.if_eq (pc := 6) 20 dX11_tell_6 (by decide) (fun h3 => ?_) (fun h3 => ?_)
  · refine rhF.iconst (pc := 20) (v := (-1)) dX11_tell_20 (by decide) ?_
    exact rhF.zret (pc := 21) dX11_tell_21 rfl rfl rfl
  · refine rhF.iload_n (pc := 9) dX11_tell_9 2 rfl ?_
    refine rhF.iconst (pc := 10) (v := 1) dX11_tell_10 (by decide) ?_
    refine rhF.icmp_lt (pc := 11) 20 dX11_tell_11 (by decide) (fun h4 => ?_) (fun h4 => ?_)
    · refine rhF.iconst (pc := 20) (v := (-1)) dX11_tell_20 (by decide) ?_
      exact rhF.zret (pc := 21) dX11_tell_21 rfl rfl rfl
    · refine rhF.iload_n (pc := 14) dX11_tell_14 2 rfl ?_
      refine rhF.bipush (pc := 15) (v := 8) dX11_tell_15 (by decide) ?_
      refine rhF.icmp_le (pc := 17) 22 dX11_tell_17 (by decide) (fun h5 => ?_) (fun h5 => ?_)
      · refine rhF.iconst (pc := 20) (v := (-1)) dX11_tell_20 (by decide) ?_
        exact rhF.zret (pc := 21) dX11_tell_21 rfl rfl rfl
      · refine rhF.aload_n (pc := 22) dX11_tell_22 0 rfl ?_
        refine rhF.get (pc := 23) (rhR _) dX11_tell_23 fl_X11_49 h1 rfl ?_
        refine rhF.iload_n (pc := 26) dX11_tell_26 1 rfl ?_
        refine rhF.iload_n (pc := 27) dX11_tell_27 2 rfl ?_
        refine rhF.iload_n (pc := 28) dX11_tell_28 3 rfl ?_
        refine rhF.callS (pc := 29) (embc := rhe0I _ _) [rhI _, rhI _, rhI _] dX11_tell_29 ml_X11_170 ms_X3_code (c_X3_code _ _ _ _ _ _) (by decide) (by decide) rfl (Nat.le_of_ble_eq_true rfl) (fun r6 _ => ?_)
        refine rhF.ck (fun h7 => ?_)
        refine rhF.callV (pc := 32) (ci := 3) (embc := rhe1I _) [rhI _] dX11_tell_32 ml_X11_174 mv_X3_add ⟨_, rfl, rfl⟩ h7 (c_X3_add _ _ _ _ _) (by decide) (by decide) rfl (Nat.le_of_ble_eq_true rfl) (fun r8 _ => ?_)
        refine rhF.if_eq (pc := 35) 48 dX11_tell_35 (by decide) (fun h9 => ?_) (fun h9 => ?_)
        · refine rhF.iconst (pc := 48) (v := (-1)) dX11_tell_48 (by decide) ?_
          exact rhF.zret (pc := 49) dX11_tell_49 rfl rfl rfl
        · refine rhF.aload_n (pc := 38) dX11_tell_38 0 rfl ?_
          refine rhF.get (pc := 39) (rhR _) dX11_tell_39 fl_X11_49 h1 rfl ?_
          refine rhF.ck (fun h10 => ?_)
          refine rhF.get (pc := 42) (rhI _) dX11_tell_42 fl_X11_184 h10 rfl ?_
          refine rhF.goto (pc := 45) 49 dX11_tell_45 (by decide) ?_
          exact rhF.zret (pc := 49) dX11_tell_49 rfl rfl rfl
theorem c_X11_tell (E : rhE) (Γ : rhG) (M : rhM) (v0 : Nat) (v1 : Int32) (v2 : Int32) (v3 : Int32) : ∀ a, f_X11_tell Γ M v0 v1 v2 v3 = some a → rhC E 6 yX11_tell cX11_tell 4 (some .int) [rhR v0, rhI v1, rhI v2, rhI v3] Γ M ((rhe1I Γ) a) := rhF.met (by decide +kernel) (Nat.le_of_ble_eq_true rfl) (b_X11_tell M v0 v1 v2 v3)
def f_X11_asked (Γ : rhG) (M : rhM) (v0 : Nat) (v1 : Int32) (v2 : Int32) (v3 : Int32) : Option (Int32 × rhM) :=
  rhck (Γ.2.2.1 v0 = 12) <|
  (f_X11_canBeFrom Γ M v0 (M.2.2 v0 5) v1 v2 v3).bind fun r2 =>
  if r2 = 0 then
    (some (((-1000000), M)))
  else
    rhck (Γ.2.2.1 (M.2.2 v0 5) = 8) <|
    (f_X7_last Γ M (M.2.2 v0 5) v1 v2).bind fun r5 =>
    rhck (Γ.2.2.1 (M.2.2 (M.2.2 v0 5) 4) = 15) <|
    rhck (0 ≤ (v3).toInt ∧ (v3).toInt < (Γ.2.2.2 (M.2.2 (M.2.2 v0 5) 4) : Nat)) <|
    rhck (Γ.2.2.1 (M.2.2 v0 3) = 10) <|
    (f_X9_asks Γ M (M.2.2 v0 3) v1 r5 v3 (M.1 (M.2.2 (M.2.2 v0 5) 4) v3.toNatClampNeg)).bind fun r9 =>
    some ((r9.1, r9.2))
set_option maxHeartbeats 4000000 in
set_option maxRecDepth 100000 in
theorem b_X11_asked {E : rhE} {Γ : rhG} : ∀ (M : rhM) (v0 : Nat) (v1 : Int32) (v2 : Int32) (v3 : Int32), rhF E 7 4 yX11_asked cX11_asked (some .int) Γ (rhe1I Γ) (f_X11_asked Γ M v0 v1 v2 v3) 0 [(0, rhR v0), (1, rhI v1), (2, rhI v2), (3, rhI v3)] [] Γ M := by
  intro M v0 v1 v2 v3
  rw [f_X11_asked]
  refine rhF.aload_n (pc := 0) dX11_asked_0 0 rfl ?_
  refine rhF.aload_n (pc := 1) dX11_asked_1 0 rfl ?_
  refine rhF.ck (fun h1 => ?_)
  refine rhF.get (pc := 2) (rhR _) dX11_asked_2 fl_X11_33 h1 rfl ?_
  refine rhF.iload_n (pc := 5) dX11_asked_5 1 rfl ?_
  refine rhF.iload_n (pc := 6) dX11_asked_6 2 rfl ?_
  refine rhF.iload_n (pc := 7) dX11_asked_7 3 rfl ?_
  refine rhF.callV (pc := 8) (ci := 11) (embc := rhe0I _ _) [rhR _, rhI _, rhI _, rhI _] dX11_asked_8 ml_X11_148 mv_X11_canBeFrom ⟨_, rfl, rfl⟩ h1 (c_X11_canBeFrom _ _ _ _ _ _ _ _) (by decide) (by decide) rfl (Nat.le_of_ble_eq_true rfl) (fun r2 _ => ?_)
  refine rhF.if_ne (pc := 11) 17 dX11_asked_11 (by decide) (fun h3 => ?_) (fun h3 => ?_)
  · refine rhF.ldc (pc := 14) dX11_asked_14 k_X11_159 ?_
    exact rhF.zret (pc := 16) dX11_asked_16 rfl rfl rfl
  · refine rhF.aload_n (pc := 17) dX11_asked_17 0 rfl ?_
    refine rhF.get (pc := 18) (rhR _) dX11_asked_18 fl_X11_23 h1 rfl ?_
    refine rhF.iload_n (pc := 21) dX11_asked_21 1 rfl ?_
    refine rhF.aload_n (pc := 22) dX11_asked_22 0 rfl ?_
    refine rhF.get (pc := 23) (rhR _) dX11_asked_23 fl_X11_33 h1 rfl ?_
    refine rhF.iload_n (pc := 26) dX11_asked_26 1 rfl ?_
    refine rhF.iload_n (pc := 27) dX11_asked_27 2 rfl ?_
    refine rhF.ck (fun h4 => ?_)
    refine rhF.callV (pc := 28) (ci := 7) (embc := rhe0I _ _) [rhI _, rhI _] dX11_asked_28 ml_X11_152 mv_X7_last ⟨_, rfl, rfl⟩ h4 (c_X7_last _ _ _ _ _ _) (by decide) (by decide) rfl (Nat.le_of_ble_eq_true rfl) (fun r5 _ => ?_)
    refine rhF.iload_n (pc := 31) dX11_asked_31 3 rfl ?_
    refine rhF.aload_n (pc := 32) dX11_asked_32 0 rfl ?_
    refine rhF.get (pc := 33) (rhR _) dX11_asked_33 fl_X11_33 h1 rfl ?_
    refine rhF.get (pc := 36) (rhR _) dX11_asked_36 fl_X11_134 h4 rfl ?_
    refine rhF.iload_n (pc := 39) dX11_asked_39 3 rfl ?_
    refine rhF.ck (fun h6 => ?_)
    refine rhF.ck (fun h7 => ?_)
    refine rhF.iald (pc := 40) dX11_asked_40 h6 h7 ?_
    refine rhF.ck (fun h8 => ?_)
    refine rhF.callV (pc := 41) (ci := 9) (embc := rhe1I _) [rhI _, rhI _, rhI _, rhI _] dX11_asked_41 ml_X11_160 mv_X9_asks ⟨_, rfl, rfl⟩ h8 (c_X9_asks _ _ _ _ _ _ _ _) (by decide) (by decide) rfl (Nat.le_of_ble_eq_true rfl) (fun r9 _ => ?_)
    exact rhF.zret (pc := 44) dX11_asked_44 rfl rfl rfl
theorem c_X11_asked (E : rhE) (Γ : rhG) (M : rhM) (v0 : Nat) (v1 : Int32) (v2 : Int32) (v3 : Int32) : ∀ a, f_X11_asked Γ M v0 v1 v2 v3 = some a → rhC E 7 yX11_asked cX11_asked 4 (some .int) [rhR v0, rhI v1, rhI v2, rhI v3] Γ M ((rhe1I Γ) a) := rhF.met (by decide +kernel) (Nat.le_of_ble_eq_true rfl) (b_X11_asked M v0 v1 v2 v3)
def f_X11_back (Γ : rhG) (M : rhM) (v0 : Nat) (v1 : Int32) : Option (Int32 × rhG × rhM) :=
  if v1 < 0 then
    (some (((-1), Γ, M)))
  else
    if v1 < 3 then
      (rhck (Γ.2.2.1 v0 = 12) <|
      rhck (Γ.2.2.1 (M.2.2 v0 12) = 16) <|
      rhck (0 ≤ (v1).toInt ∧ (v1).toInt < (Γ.2.2.2 (M.2.2 v0 12) : Nat)) <|
      if (M.2.1 (M.2.2 v0 12) v1.toNatClampNeg) = ((-1 : Int64)) then
        (some (((-1), Γ, M)))
      else
        rhck (Γ.2.2.1 (M.2.2 v0 5) = 8) <|
        (f_X7_look Γ M (M.2.2 v0 5) (M.2.2 v0 3) (M.2.1 (M.2.2 v0 12) v1.toNatClampNeg)).bind fun r8 =>
        rhck (Γ.2.2.1 (r8.2.2 v0 13) = 18) <|
        rhck (0 ≤ (v1).toInt ∧ (v1).toInt < (Γ.2.2.2 (r8.2.2 v0 13) : Nat)) <|
        rhck (Γ.2.2.1 (r8.2.2 v0 7) = 4) <|
        (f_X3_copy Γ r8 (r8.2.2 v0 7) (r8.2.2 (r8.2.2 v0 13) v1.toNatClampNeg)).bind fun r12 =>
        rhck (r12.1.2.2.1 v0 = 12) <|
        rhck (r12.1.2.2.1 (r12.2.2.2 v0 7) = 4) <|
        some ((r12.2.1 (r12.2.2.2 v0 7) 1, r12.1, r12.2)))
    else
      some (((-1), Γ, M))
set_option maxHeartbeats 4000000 in
set_option maxRecDepth 100000 in
theorem b_X11_back {E : rhE} {Γ0 : rhG} : ∀ (Γ : rhG) (M : rhM) (v0 : Nat) (v1 : Int32), rhF E 7 2 yX11_back cX11_back (some .int) Γ0 rhe2I (f_X11_back Γ M v0 v1) 0 [(0, rhR v0), (1, rhI v1)] [] Γ M := by
  intro Γ M v0 v1
  rw [f_X11_back]
  refine rhF.iload_n (pc := 0) dX11_back_0 1 rfl ?_
  refine rhF.if_lt (pc := 1) 22 dX11_back_1 (by decide) (fun h1 => ?_) (fun h1 => ?_)
  · refine rhF.iconst (pc := 22) (v := (-1)) dX11_back_22 (by decide) ?_
    exact rhF.zret (pc := 23) dX11_back_23 rfl rfl rfl
  · refine rhF.iload_n (pc := 4) dX11_back_4 1 rfl ?_
    refine rhF.iconst (pc := 5) (v := 3) dX11_back_5 (by decide) ?_
    refine rhF.icmp_ge (pc := 6) 22 dX11_back_6 (by decide) (fun h2 => ?_) (fun h2 => ?_)
    · refine rhF.aload_n (pc := 9) dX11_back_9 0 rfl ?_
      refine rhF.ck (fun h3 => ?_)
      refine rhF.get (pc := 10) (rhR _) dX11_back_10 fl_X11_55 h3 rfl ?_
      refine rhF.iload_n (pc := 13) dX11_back_13 1 rfl ?_
      refine rhF.ck (fun h4 => ?_)
      refine rhF.ck (fun h5 => ?_)
      refine rhF.lald (pc := 14) dX11_back_14 h4 h5 ?_
      refine rhF.ldc2 (pc := 15) dX11_back_15 k_X11_105 ?_
      refine rhF.lcne (pc := 18) 24 dX11_back_18 dX11_back_19 (by decide) (fun h6 => ?_) (fun h6 => ?_)
      · refine rhF.iconst (pc := 22) (v := (-1)) dX11_back_22 (by decide) ?_
        exact rhF.zret (pc := 23) dX11_back_23 rfl rfl rfl
      · refine rhF.aload_n (pc := 24) dX11_back_24 0 rfl ?_
        refine rhF.get (pc := 25) (rhR _) dX11_back_25 fl_X11_33 h3 rfl ?_
        refine rhF.aload_n (pc := 28) dX11_back_28 0 rfl ?_
        refine rhF.get (pc := 29) (rhR _) dX11_back_29 fl_X11_23 h3 rfl ?_
        refine rhF.aload_n (pc := 32) dX11_back_32 0 rfl ?_
        refine rhF.get (pc := 33) (rhR _) dX11_back_33 fl_X11_55 h3 rfl ?_
        refine rhF.iload_n (pc := 36) dX11_back_36 1 rfl ?_
        refine rhF.lald (pc := 37) dX11_back_37 h4 h5 ?_
        refine rhF.ck (fun h7 => ?_)
        refine rhF.callV (pc := 38) (ci := 7) (embc := rhe1U _) [rhR _, rhJ _] dX11_back_38 ml_X11_91 mv_X7_look ⟨_, rfl, rfl⟩ h7 (c_X7_look _ _ _ _ _ _) (by decide) (by decide) rfl (Nat.le_of_ble_eq_true rfl) (fun r8 _ => ?_)
        refine rhF.aload_n (pc := 41) dX11_back_41 0 rfl ?_
        refine rhF.get (pc := 42) (rhR _) dX11_back_42 fl_X11_45 h3 rfl ?_
        refine rhF.aload_n (pc := 45) dX11_back_45 0 rfl ?_
        refine rhF.get (pc := 46) (rhR _) dX11_back_46 fl_X11_59 h3 rfl ?_
        refine rhF.iload_n (pc := 49) dX11_back_49 1 rfl ?_
        refine rhF.ck (fun h9 => ?_)
        refine rhF.ck (fun h10 => ?_)
        refine rhF.aldP (pc := 50) dX11_back_50 h9 h10 ?_
        refine rhF.ck (fun h11 => ?_)
        refine rhF.callV (pc := 51) (ci := 3) (embc := rhe2U) [rhR _] dX11_back_51 ml_X11_300 mv_X3_copy ⟨_, rfl, rfl⟩ h11 (c_X3_copy _ _ _ _ _) (by decide) (by decide) rfl (Nat.le_of_ble_eq_true rfl) (fun r12 _ => ?_)
        refine rhF.aload_n (pc := 54) dX11_back_54 0 rfl ?_
        refine rhF.ck (fun h13 => ?_)
        refine rhF.get (pc := 55) (rhR _) dX11_back_55 fl_X11_45 h13 rfl ?_
        refine rhF.ck (fun h14 => ?_)
        refine rhF.get (pc := 58) (rhI _) dX11_back_58 fl_X11_184 h14 rfl ?_
        exact rhF.zret (pc := 61) dX11_back_61 rfl rfl rfl
    · refine rhF.iconst (pc := 22) (v := (-1)) dX11_back_22 (by decide) ?_
      exact rhF.zret (pc := 23) dX11_back_23 rfl rfl rfl
theorem c_X11_back (E : rhE) (Γ : rhG) (M : rhM) (v0 : Nat) (v1 : Int32) : ∀ a, f_X11_back Γ M v0 v1 = some a → rhC E 7 yX11_back cX11_back 2 (some .int) [rhR v0, rhI v1] Γ M (rhe2I a) := rhF.met (by decide +kernel) (Nat.le_of_ble_eq_true rfl) (b_X11_back (Γ0 := Γ) Γ M v0 v1)
def f_X11_end (Γ : rhG) (M : rhM) (v0 : Nat) (v1 : Int32) : Option (Int32 × rhM) :=
  if v1 < 0 then
    (some (((-1), M)))
  else
    rhck (Γ.2.2.1 v0 = 12) <|
    if (M.1 v0 1) < v1 then
      (some (((-1), M)))
    else
      let M4 := rhsi M v0 1 v1
      some ((v1, M4))
set_option maxHeartbeats 4000000 in
set_option maxRecDepth 100000 in
theorem b_X11_end {E : rhE} {Γ : rhG} : ∀ (M : rhM) (v0 : Nat) (v1 : Int32), rhF E 1 2 yX11_end cX11_end (some .int) Γ (rhe1I Γ) (f_X11_end Γ M v0 v1) 0 [(0, rhR v0), (1, rhI v1)] [] Γ M := by
  intro M v0 v1
  rw [f_X11_end]
  refine rhF.iload_n (pc := 0) dX11_end_0 1 rfl ?_
  refine rhF.if_lt (pc := 1) 12 dX11_end_1 (by decide) (fun h1 => ?_) (fun h1 => ?_)
  · refine rhF.iconst (pc := 12) (v := (-1)) dX11_end_12 (by decide) ?_
    exact rhF.zret (pc := 13) dX11_end_13 rfl rfl rfl
  · refine rhF.iload_n (pc := 4) dX11_end_4 1 rfl ?_
    refine rhF.aload_n (pc := 5) dX11_end_5 0 rfl ?_
    refine rhF.ck (fun h2 => ?_)
    refine rhF.get (pc := 6) (rhI _) dX11_end_6 fl_X11_73 h2 rfl ?_
    refine rhF.icmp_le (pc := 9) 14 dX11_end_9 (by decide) (fun h3 => ?_) (fun h3 => ?_)
    · refine rhF.iconst (pc := 12) (v := (-1)) dX11_end_12 (by decide) ?_
      exact rhF.zret (pc := 13) dX11_end_13 rfl rfl rfl
    · refine rhF.aload_n (pc := 14) dX11_end_14 0 rfl ?_
      refine rhF.iload_n (pc := 15) dX11_end_15 1 rfl ?_
      refine rhF.puti (pc := 16) dX11_end_16 fl_X11_73 h2 (fun q hq => by cases hq; exact Or.inl rfl) ⟨rfl, rfl⟩ (fun _ => rfl) ?_
      refine rhF.iload_n (pc := 19) dX11_end_19 1 rfl ?_
      exact rhF.zret (pc := 20) dX11_end_20 rfl rfl rfl
theorem c_X11_end (E : rhE) (Γ : rhG) (M : rhM) (v0 : Nat) (v1 : Int32) : ∀ a, f_X11_end Γ M v0 v1 = some a → rhC E 1 yX11_end cX11_end 2 (some .int) [rhR v0, rhI v1] Γ M ((rhe1I Γ) a) := rhF.met (by decide +kernel) (Nat.le_of_ble_eq_true rfl) (b_X11_end M v0 v1)
def f_X12_isIn (Γ : rhG) (M : rhM) (v0 : Int32) (v1 : Int32) (v2 : Int32) : Option (Int32) :=
  if v0 < v1 then
    (some 0)
  else
    if v2 < v0 then
      (some 0)
    else
      some 1
set_option maxHeartbeats 4000000 in
set_option maxRecDepth 100000 in
theorem b_X12_isIn {E : rhE} {Γ : rhG} {M : rhM} : ∀ (v0 : Int32) (v1 : Int32) (v2 : Int32), rhF E 1 3 yX12_isIn cX12_isIn (some .boolean) Γ (rhe0I Γ M) (f_X12_isIn Γ M v0 v1 v2) 0 [(0, rhI v0), (1, rhI v1), (2, rhI v2)] [] Γ M := by
  intro v0 v1 v2
  rw [f_X12_isIn]
  refine rhF.iload_n (pc := 0) dX12_isIn_0 0 rfl ?_
  refine rhF.iload_n (pc := 1) dX12_isIn_1 1 rfl ?_
  refine rhF.icmp_lt (pc := 2) 14 dX12_isIn_2 (by decide) (fun h1 => ?_) (fun h1 => ?_)
  · refine rhF.iconst (pc := 14) (v := 0) dX12_isIn_14 (by decide) ?_
    exact rhF.zret (pc := 15) dX12_isIn_15 rfl rfl rfl
  · refine rhF.iload_n (pc := 5) dX12_isIn_5 0 rfl ?_
    refine rhF.iload_n (pc := 6) dX12_isIn_6 2 rfl ?_
    refine rhF.icmp_gt (pc := 7) 14 dX12_isIn_7 (by decide) (fun h2 => ?_) (fun h2 => ?_)
    · refine rhF.iconst (pc := 14) (v := 0) dX12_isIn_14 (by decide) ?_
      exact rhF.zret (pc := 15) dX12_isIn_15 rfl rfl rfl
    · refine rhF.iconst (pc := 10) (v := 1) dX12_isIn_10 (by decide) ?_
      refine rhF.goto (pc := 11) 15 dX12_isIn_11 (by decide) ?_
      exact rhF.zret (pc := 15) dX12_isIn_15 rfl rfl rfl
theorem c_X12_isIn (E : rhE) (Γ : rhG) (M : rhM) (v0 : Int32) (v1 : Int32) (v2 : Int32) : ∀ a, f_X12_isIn Γ M v0 v1 v2 = some a → rhC E 1 yX12_isIn cX12_isIn 3 (some .boolean) [rhI v0, rhI v1, rhI v2] Γ M ((rhe0I Γ M) a) := rhF.met (by decide +kernel) (Nat.le_of_ble_eq_true rfl) (b_X12_isIn v0 v1 v2)
def f_X12_railMany (Γ : rhG) (M : rhM) (v0 : Nat) : Option (Int32) :=
  rhck (Γ.2.2.1 v0 = 13) <|
  rhck (Γ.2.2.1 (M.2.2 v0 11) = 15) <|
  rhck (0 ≤ (M.1 v0 34).toInt ∧ (M.1 v0 34).toInt < (Γ.2.2.2 (M.2.2 v0 11) : Nat)) <|
  some (M.1 (M.2.2 v0 11) (M.1 v0 34).toNatClampNeg)
set_option maxHeartbeats 4000000 in
set_option maxRecDepth 100000 in
theorem b_X12_railMany {E : rhE} {Γ : rhG} {M : rhM} : ∀ (v0 : Nat), rhF E 1 1 yX12_railMany cX12_railMany (some .int) Γ (rhe0I Γ M) (f_X12_railMany Γ M v0) 0 [(0, rhR v0)] [] Γ M := by
  intro v0
  rw [f_X12_railMany]
  refine rhF.aload_n (pc := 0) dX12_railMany_0 0 rfl ?_
  refine rhF.ck (fun h1 => ?_)
  refine rhF.get (pc := 1) (rhR _) dX12_railMany_1 fl_X12_20 h1 rfl ?_
  refine rhF.aload_n (pc := 4) dX12_railMany_4 0 rfl ?_
  refine rhF.get (pc := 5) (rhI _) dX12_railMany_5 fl_X12_327 h1 rfl ?_
  refine rhF.ck (fun h2 => ?_)
  refine rhF.ck (fun h3 => ?_)
  refine rhF.iald (pc := 8) dX12_railMany_8 h2 h3 ?_
  exact rhF.zret (pc := 9) dX12_railMany_9 rfl rfl rfl
theorem c_X12_railMany (E : rhE) (Γ : rhG) (M : rhM) (v0 : Nat) : ∀ a, f_X12_railMany Γ M v0 = some a → rhC E 1 yX12_railMany cX12_railMany 1 (some .int) [rhR v0] Γ M ((rhe0I Γ M) a) := rhF.met (by decide +kernel) (Nat.le_of_ble_eq_true rfl) (b_X12_railMany v0)
def f_X12_isRail (Γ : rhG) (M : rhM) (v0 : Nat) (v1 : Int32) : Option (Int32) :=
  rhck (Γ.2.2.1 v0 = 13) <|
  (f_X12_railMany Γ M v0).bind fun r2 =>
  (f_X12_isIn Γ M v1 (0 : Int32) (r2 - 1)).bind fun r3 =>
  rhck (r3 = 0 ∨ r3 = 1) <|
  some r3
set_option maxHeartbeats 4000000 in
set_option maxRecDepth 100000 in
theorem b_X12_isRail {E : rhE} {Γ : rhG} {M : rhM} : ∀ (v0 : Nat) (v1 : Int32), rhF E 5 2 yX12_isRail cX12_isRail (some .boolean) Γ (rhe0I Γ M) (f_X12_isRail Γ M v0 v1) 0 [(0, rhR v0), (1, rhI v1)] [] Γ M := by
  intro v0 v1
  rw [f_X12_isRail]
  refine rhF.iload_n (pc := 0) dX12_isRail_0 1 rfl ?_
  refine rhF.iconst (pc := 1) (v := 0) dX12_isRail_1 (by decide) ?_
  refine rhF.aload_n (pc := 2) dX12_isRail_2 0 rfl ?_
  refine rhF.ck (fun h1 => ?_)
  refine rhF.callV (pc := 3) (ci := 12) (embc := rhe0I _ _) [] dX12_isRail_3 ml_X12_412 mv_X12_railMany ⟨_, rfl, rfl⟩ h1 (c_X12_railMany _ _ _ _) (by decide) (by decide) rfl (Nat.le_of_ble_eq_true rfl) (fun r2 _ => ?_)
  refine rhF.iconst (pc := 6) (v := 1) dX12_isRail_6 (by decide) ?_
  refine rhF.isub (pc := 7) dX12_isRail_7 ?_
  refine rhF.callS (pc := 8) (embc := rhe0I _ _) [rhI _, rhI _, rhI _] dX12_isRail_8 ml_X12_415 ms_X12_isIn (c_X12_isIn _ _ _ _ _ _) (by decide) (by decide) rfl (Nat.le_of_ble_eq_true rfl) (fun r3 _ => ?_)
  refine rhF.ck (fun h4 => ?_)
  exact rhF.zret (pc := 11) dX12_isRail_11 rfl (rhzb h4) rfl
theorem c_X12_isRail (E : rhE) (Γ : rhG) (M : rhM) (v0 : Nat) (v1 : Int32) : ∀ a, f_X12_isRail Γ M v0 v1 = some a → rhC E 5 yX12_isRail cX12_isRail 2 (some .boolean) [rhR v0, rhI v1] Γ M ((rhe0I Γ M) a) := rhF.met (by decide +kernel) (Nat.le_of_ble_eq_true rfl) (b_X12_isRail v0 v1)
def f_X12_tell (Γ : rhG) (M : rhM) (v0 : Nat) (v1 : Int32) (v2 : Int32) (v3 : Int32) : Option (Int32 × rhM) :=
  rhck (Γ.2.2.1 v0 = 13) <|
  (f_X12_isRail Γ M v0 v1).bind fun r2 =>
  if r2 = 0 then
    (some (((-1), M)))
  else
    (f_X12_isRail Γ M v0 v3).bind fun r4 =>
    if r4 = 0 then
      (some (((-1), M)))
    else
      if v1 = v3 then
        (some (((-1), M)))
      else
        (f_X12_isIn Γ M v2 (1 : Int32) (8 : Int32)).bind fun r7 =>
        if r7 = 0 then
          (some (((-1), M)))
        else
          if (M.1 v0 51) = 12 then
            (some (((-1), M)))
          else
            rhck (Γ.2.2.1 (M.2.2 v0 50) = 15) <|
            rhck (0 ≤ (M.1 v0 51).toInt ∧ (M.1 v0 51).toInt < (Γ.2.2.2 (M.2.2 v0 50) : Nat)) <|
            let M12 := rhsi M (M.2.2 v0 50) (M.1 v0 51 : Int32).toNatClampNeg (((100 * v1) + (10 * v2)) + v3)
            let M13 := rhsi M12 v0 51 ((M12.1 v0 51) + 1)
            some ((M13.1 v0 51, M13))
set_option maxHeartbeats 4000000 in
set_option maxRecDepth 100000 in
theorem b_X12_tell {E : rhE} {Γ : rhG} : ∀ (M : rhM) (v0 : Nat) (v1 : Int32) (v2 : Int32) (v3 : Int32), rhF E 6 4 yX12_tell cX12_tell (some .int) Γ (rhe1I Γ) (f_X12_tell Γ M v0 v1 v2 v3) 0 [(0, rhR v0), (1, rhI v1), (2, rhI v2), (3, rhI v3)] [] Γ M := by
  intro M v0 v1 v2 v3
  rw [f_X12_tell]
  refine rhF.aload_n (pc := 0) dX12_tell_0 0 rfl ?_
  refine rhF.iload_n (pc := 1) dX12_tell_1 1 rfl ?_
  refine rhF.ck (fun h1 => ?_)
  refine rhF.callV (pc := 2) (ci := 12) (embc := rhe0I _ _) [rhI _] dX12_tell_2 ml_X12_428 mv_X12_isRail ⟨_, rfl, rfl⟩ h1 (c_X12_isRail _ _ _ _ _) (by decide) (by decide) rfl (Nat.le_of_ble_eq_true rfl) (fun r2 _ => ?_)
  refine rhF.if_eq (pc := 5) 40 dX12_tell_5 (by decide) (fun h3 => ?_) (fun h3 => ?_)
  · refine rhF.iconst (pc := 40) (v := (-1)) dX12_tell_40 (by decide) ?_
    exact rhF.zret (pc := 41) dX12_tell_41 rfl rfl rfl
  · refine rhF.aload_n (pc := 8) dX12_tell_8 0 rfl ?_
    refine rhF.iload_n (pc := 9) dX12_tell_9 3 rfl ?_
    refine rhF.callV (pc := 10) (ci := 12) (embc := rhe0I _ _) [rhI _] dX12_tell_10 ml_X12_428 mv_X12_isRail ⟨_, rfl, rfl⟩ h1 (c_X12_isRail _ _ _ _ _) (by decide) (by decide) rfl (Nat.le_of_ble_eq_true rfl) (fun r4 _ => ?_)
    refine rhF.if_eq (pc := 13) 40 dX12_tell_13 (by decide) (fun h5 => ?_) (fun h5 => ?_)
    · refine rhF.iconst (pc := 40) (v := (-1)) dX12_tell_40 (by decide) ?_
      exact rhF.zret (pc := 41) dX12_tell_41 rfl rfl rfl
    · refine rhF.iload_n (pc := 16) dX12_tell_16 1 rfl ?_
      refine rhF.iload_n (pc := 17) dX12_tell_17 3 rfl ?_
      refine rhF.icmp_eq (pc := 18) 40 dX12_tell_18 (by decide) (fun h6 => ?_) (fun h6 => ?_)
      · refine rhF.iconst (pc := 40) (v := (-1)) dX12_tell_40 (by decide) ?_
        exact rhF.zret (pc := 41) dX12_tell_41 rfl rfl rfl
      · refine rhF.iload_n (pc := 21) dX12_tell_21 2 rfl ?_
        refine rhF.iconst (pc := 22) (v := 1) dX12_tell_22 (by decide) ?_
        refine rhF.bipush (pc := 23) (v := 8) dX12_tell_23 (by decide) ?_
        refine rhF.callS (pc := 25) (embc := rhe0I _ _) [rhI _, rhI _, rhI _] dX12_tell_25 ml_X12_415 ms_X12_isIn (c_X12_isIn _ _ _ _ _ _) (by decide) (by decide) rfl (Nat.le_of_ble_eq_true rfl) (fun r7 _ => ?_)
        refine rhF.if_eq (pc := 28) 40 dX12_tell_28 (by decide) (fun h8 => ?_) (fun h8 => ?_)
        · refine rhF.iconst (pc := 40) (v := (-1)) dX12_tell_40 (by decide) ?_
          exact rhF.zret (pc := 41) dX12_tell_41 rfl rfl rfl
        · refine rhF.aload_n (pc := 31) dX12_tell_31 0 rfl ?_
          refine rhF.get (pc := 32) (rhI _) dX12_tell_32 fl_X12_336 h1 rfl ?_
          refine rhF.bipush (pc := 35) (v := 12) dX12_tell_35 (by decide) ?_
          refine rhF.icmp_ne (pc := 37) 42 dX12_tell_37 (by decide) (fun h9 => ?_) (fun h9 => ?_)
          · refine rhF.iconst (pc := 40) (v := (-1)) dX12_tell_40 (by decide) ?_
            exact rhF.zret (pc := 41) dX12_tell_41 rfl rfl rfl
          · refine rhF.aload_n (pc := 42) dX12_tell_42 0 rfl ?_
            refine rhF.get (pc := 43) (rhR _) dX12_tell_43 fl_X12_116 h1 rfl ?_
            refine rhF.aload_n (pc := 46) dX12_tell_46 0 rfl ?_
            refine rhF.get (pc := 47) (rhI _) dX12_tell_47 fl_X12_336 h1 rfl ?_
            refine rhF.bipush (pc := 50) (v := 100) dX12_tell_50 (by decide) ?_
            refine rhF.iload_n (pc := 52) dX12_tell_52 1 rfl ?_
            refine rhF.imul (pc := 53) dX12_tell_53 ?_
            refine rhF.bipush (pc := 54) (v := 10) dX12_tell_54 (by decide) ?_
            refine rhF.iload_n (pc := 56) dX12_tell_56 2 rfl ?_
            refine rhF.imul (pc := 57) dX12_tell_57 ?_
            refine rhF.iadd (pc := 58) dX12_tell_58 ?_
            refine rhF.iload_n (pc := 59) dX12_tell_59 3 rfl ?_
            refine rhF.iadd (pc := 60) dX12_tell_60 ?_
            refine rhF.ck (fun h10 => ?_)
            refine rhF.ck (fun h11 => ?_)
            refine rhF.iast (pc := 61) dX12_tell_61 h10 h11 ?_
            refine rhF.aload_n (pc := 62) dX12_tell_62 0 rfl ?_
            refine rhF.dupr (pc := 63) dX12_tell_63 ?_
            refine rhF.get (pc := 64) (rhI _) dX12_tell_64 fl_X12_336 h1 rfl ?_
            refine rhF.iconst (pc := 67) (v := 1) dX12_tell_67 (by decide) ?_
            refine rhF.iadd (pc := 68) dX12_tell_68 ?_
            refine rhF.puti (pc := 69) dX12_tell_69 fl_X12_336 h1 (fun q hq => by cases hq; exact Or.inl rfl) ⟨rfl, rfl⟩ (fun _ => rfl) ?_
            refine rhF.aload_n (pc := 72) dX12_tell_72 0 rfl ?_
            refine rhF.get (pc := 73) (rhI _) dX12_tell_73 fl_X12_336 h1 rfl ?_
            exact rhF.zret (pc := 76) dX12_tell_76 rfl rfl rfl
theorem c_X12_tell (E : rhE) (Γ : rhG) (M : rhM) (v0 : Nat) (v1 : Int32) (v2 : Int32) (v3 : Int32) : ∀ a, f_X12_tell Γ M v0 v1 v2 v3 = some a → rhC E 6 yX12_tell cX12_tell 4 (some .int) [rhR v0, rhI v1, rhI v2, rhI v3] Γ M ((rhe1I Γ) a) := rhF.met (by decide +kernel) (Nat.le_of_ble_eq_true rfl) (b_X12_tell M v0 v1 v2 v3)
def f_X12_beginOf (Γ : rhG) (M : rhM) (v0 : Nat) (v1 : Int32) : Option (Int32) :=
  if v1 = 0 then
    (some 0)
  else
    rhck (Γ.2.2.1 v0 = 13) <|
    rhck (Γ.2.2.1 (M.2.2 v0 40) = 15) <|
    rhck (0 ≤ (v1 - 1).toInt ∧ (v1 - 1).toInt < (Γ.2.2.2 (M.2.2 v0 40) : Nat)) <|
    some (M.1 (M.2.2 v0 40) (v1 - 1).toNatClampNeg)
set_option maxHeartbeats 4000000 in
set_option maxRecDepth 100000 in
theorem b_X12_beginOf {E : rhE} {Γ : rhG} {M : rhM} : ∀ (v0 : Nat) (v1 : Int32), rhF E 1 2 yX12_beginOf cX12_beginOf (some .int) Γ (rhe0I Γ M) (f_X12_beginOf Γ M v0 v1) 0 [(0, rhR v0), (1, rhI v1)] [] Γ M := by
  intro v0 v1
  rw [f_X12_beginOf]
  refine rhF.iload_n (pc := 0) dX12_beginOf_0 1 rfl ?_
  refine rhF.if_ne (pc := 1) 8 dX12_beginOf_1 (by decide) (fun h1 => ?_) (fun h1 => ?_)
  · refine rhF.iconst (pc := 4) (v := 0) dX12_beginOf_4 (by decide) ?_
    refine rhF.goto (pc := 5) 16 dX12_beginOf_5 (by decide) ?_
    exact rhF.zret (pc := 16) dX12_beginOf_16 rfl rfl rfl
  · refine rhF.aload_n (pc := 8) dX12_beginOf_8 0 rfl ?_
    refine rhF.ck (fun h2 => ?_)
    refine rhF.get (pc := 9) (rhR _) dX12_beginOf_9 fl_X12_95 h2 rfl ?_
    refine rhF.iload_n (pc := 12) dX12_beginOf_12 1 rfl ?_
    refine rhF.iconst (pc := 13) (v := 1) dX12_beginOf_13 (by decide) ?_
    refine rhF.isub (pc := 14) dX12_beginOf_14 ?_
    refine rhF.ck (fun h3 => ?_)
    refine rhF.ck (fun h4 => ?_)
    refine rhF.iald (pc := 15) dX12_beginOf_15 h3 h4 ?_
    exact rhF.zret (pc := 16) dX12_beginOf_16 rfl rfl rfl
theorem c_X12_beginOf (E : rhE) (Γ : rhG) (M : rhM) (v0 : Nat) (v1 : Int32) : ∀ a, f_X12_beginOf Γ M v0 v1 = some a → rhC E 1 yX12_beginOf cX12_beginOf 2 (some .int) [rhR v0, rhI v1] Γ M ((rhe0I Γ M) a) := rhF.met (by decide +kernel) (Nat.le_of_ble_eq_true rfl) (b_X12_beginOf v0 v1)
def f_X12_canBe (Γ : rhG) (M : rhM) (v0 : Nat) (v1 : Int32) (v2 : Int32) (v3 : Int32) : Option (Int32) :=
  rhck (Γ.2.2.1 v0 = 13) <|
  (f_X12_isRail Γ M v0 v1).bind fun r2 =>
  if r2 = 0 then
    (some 0)
  else
    (f_X12_isRail Γ M v0 v3).bind fun r4 =>
    if r4 = 0 then
      (some 0)
    else
      if v1 = v3 then
        (some 0)
      else
        if v2 < 1 then
          (some 0)
        else
          rhck (Γ.2.2.1 (M.2.2 v0 40) = 15) <|
          rhck (0 ≤ (v1).toInt ∧ (v1).toInt < (Γ.2.2.2 (M.2.2 v0 40) : Nat)) <|
          (f_X12_beginOf Γ M v0 v1).bind fun r10 =>
          if ((M.1 (M.2.2 v0 40) v1.toNatClampNeg) - r10) < v2 then
            (some 0)
          else
            some 1
set_option maxHeartbeats 4000000 in
set_option maxRecDepth 100000 in
theorem b_X12_canBe {E : rhE} {Γ : rhG} {M : rhM} : ∀ (v0 : Nat) (v1 : Int32) (v2 : Int32) (v3 : Int32), rhF E 6 4 yX12_canBe cX12_canBe (some .boolean) Γ (rhe0I Γ M) (f_X12_canBe Γ M v0 v1 v2 v3) 0 [(0, rhR v0), (1, rhI v1), (2, rhI v2), (3, rhI v3)] [] Γ M := by
  intro v0 v1 v2 v3
  rw [f_X12_canBe]
  refine rhF.aload_n (pc := 0) dX12_canBe_0 0 rfl ?_
  refine rhF.iload_n (pc := 1) dX12_canBe_1 1 rfl ?_
  refine rhF.ck (fun h1 => ?_)
  refine rhF.callV (pc := 2) (ci := 12) (embc := rhe0I _ _) [rhI _] dX12_canBe_2 ml_X12_428 mv_X12_isRail ⟨_, rfl, rfl⟩ h1 (c_X12_isRail _ _ _ _ _) (by decide) (by decide) rfl (Nat.le_of_ble_eq_true rfl) (fun r2 _ => ?_)
  refine rhF.if_eq (pc := 5) 46 dX12_canBe_5 (by decide) (fun h3 => ?_) (fun h3 => ?_)
  · refine rhF.iconst (pc := 46) (v := 0) dX12_canBe_46 (by decide) ?_
    exact rhF.zret (pc := 47) dX12_canBe_47 rfl rfl rfl
  · refine rhF.aload_n (pc := 8) dX12_canBe_8 0 rfl ?_
    refine rhF.iload_n (pc := 9) dX12_canBe_9 3 rfl ?_
    refine rhF.callV (pc := 10) (ci := 12) (embc := rhe0I _ _) [rhI _] dX12_canBe_10 ml_X12_428 mv_X12_isRail ⟨_, rfl, rfl⟩ h1 (c_X12_isRail _ _ _ _ _) (by decide) (by decide) rfl (Nat.le_of_ble_eq_true rfl) (fun r4 _ => ?_)
    refine rhF.if_eq (pc := 13) 46 dX12_canBe_13 (by decide) (fun h5 => ?_) (fun h5 => ?_)
    · refine rhF.iconst (pc := 46) (v := 0) dX12_canBe_46 (by decide) ?_
      exact rhF.zret (pc := 47) dX12_canBe_47 rfl rfl rfl
    · refine rhF.iload_n (pc := 16) dX12_canBe_16 1 rfl ?_
      refine rhF.iload_n (pc := 17) dX12_canBe_17 3 rfl ?_
      refine rhF.icmp_eq (pc := 18) 46 dX12_canBe_18 (by decide) (fun h6 => ?_) (fun h6 => ?_)
      · refine rhF.iconst (pc := 46) (v := 0) dX12_canBe_46 (by decide) ?_
        exact rhF.zret (pc := 47) dX12_canBe_47 rfl rfl rfl
      · refine rhF.iload_n (pc := 21) dX12_canBe_21 2 rfl ?_
        refine rhF.iconst (pc := 22) (v := 1) dX12_canBe_22 (by decide) ?_
        refine rhF.icmp_lt (pc := 23) 46 dX12_canBe_23 (by decide) (fun h7 => ?_) (fun h7 => ?_)
        · refine rhF.iconst (pc := 46) (v := 0) dX12_canBe_46 (by decide) ?_
          exact rhF.zret (pc := 47) dX12_canBe_47 rfl rfl rfl
        · refine rhF.iload_n (pc := 26) dX12_canBe_26 2 rfl ?_
          refine rhF.aload_n (pc := 27) dX12_canBe_27 0 rfl ?_
          refine rhF.get (pc := 28) (rhR _) dX12_canBe_28 fl_X12_95 h1 rfl ?_
          refine rhF.iload_n (pc := 31) dX12_canBe_31 1 rfl ?_
          refine rhF.ck (fun h8 => ?_)
          refine rhF.ck (fun h9 => ?_)
          refine rhF.iald (pc := 32) dX12_canBe_32 h8 h9 ?_
          refine rhF.aload_n (pc := 33) dX12_canBe_33 0 rfl ?_
          refine rhF.iload_n (pc := 34) dX12_canBe_34 1 rfl ?_
          refine rhF.callV (pc := 35) (ci := 12) (embc := rhe0I _ _) [rhI _] dX12_canBe_35 ml_X12_425 mv_X12_beginOf ⟨_, rfl, rfl⟩ h1 (c_X12_beginOf _ _ _ _ _) (by decide) (by decide) rfl (Nat.le_of_ble_eq_true rfl) (fun r10 _ => ?_)
          refine rhF.isub (pc := 38) dX12_canBe_38 ?_
          refine rhF.icmp_gt (pc := 39) 46 dX12_canBe_39 (by decide) (fun h11 => ?_) (fun h11 => ?_)
          · refine rhF.iconst (pc := 46) (v := 0) dX12_canBe_46 (by decide) ?_
            exact rhF.zret (pc := 47) dX12_canBe_47 rfl rfl rfl
          · refine rhF.iconst (pc := 42) (v := 1) dX12_canBe_42 (by decide) ?_
            refine rhF.goto (pc := 43) 47 dX12_canBe_43 (by decide) ?_
            exact rhF.zret (pc := 47) dX12_canBe_47 rfl rfl rfl
theorem c_X12_canBe (E : rhE) (Γ : rhG) (M : rhM) (v0 : Nat) (v1 : Int32) (v2 : Int32) (v3 : Int32) : ∀ a, f_X12_canBe Γ M v0 v1 v2 v3 = some a → rhC E 6 yX12_canBe cX12_canBe 4 (some .boolean) [rhR v0, rhI v1, rhI v2, rhI v3] Γ M ((rhe0I Γ M) a) := rhF.met (by decide +kernel) (Nat.le_of_ble_eq_true rfl) (b_X12_canBe v0 v1 v2 v3)
def f_X12_roomOn_37 (Γ : rhG) (M : rhM) : Nat → Nat → Int32 → Int32 → Int32 → Option (Int32)
  | 0, _, _, _, _ => none
  | n + 1, v0, v1, v2, v3 =>
    rhck (Γ.2.2.1 v0 = 13) <|
    rhck (Γ.2.2.1 (M.2.2 v0 40) = 15) <|
    rhck (0 ≤ (v1).toInt ∧ (v1).toInt < (Γ.2.2.2 (M.2.2 v0 40) : Nat)) <|
    if v3 < (M.1 (M.2.2 v0 40) v1.toNatClampNeg) then
      (rhck (Γ.2.2.1 (M.2.2 v0 39) = 15) <|
      rhck (0 ≤ (v3).toInt ∧ (v3).toInt < (Γ.2.2.2 (M.2.2 v0 39) : Nat)) <|
      rhck (Γ.2.2.1 (M.2.2 v0 19) = 15) <|
      rhck (0 ≤ ((8 * (M.1 v0 34)) + (M.1 (M.2.2 v0 39) v3.toNatClampNeg)).toInt ∧ ((8 * (M.1 v0 34)) + (M.1 (M.2.2 v0 39) v3.toNatClampNeg)).toInt < (Γ.2.2.2 (M.2.2 v0 19) : Nat)) <|
      let x16 := v2 - (M.1 (M.2.2 v0 19) ((8 * (M.1 v0 34)) + (M.1 (M.2.2 v0 39) v3.toNatClampNeg)).toNatClampNeg)
      let x17 : Int32 := v3 + 1
      f_X12_roomOn_37 Γ M n v0 v1 x16 x17)
    else
      some v2
def f_X12_roomOn_29 (Γ : rhG) (M : rhM) (v0 : Nat) (v1 : Int32) (s0 : Int32) (s1 : Int32) : Option (Int32) :=
  let x5 := s0 + s1
  rhck (Γ.2.2.1 v0 = 13) <|
  (f_X12_beginOf Γ M v0 v1).bind fun r7 =>
  f_X12_roomOn_37 Γ M rhFU v0 v1 x5 r7
def f_X12_roomOn (Γ : rhG) (M : rhM) (v0 : Nat) (v1 : Int32) : Option (Int32) :=
  rhck (Γ.2.2.1 v0 = 13) <|
  rhck (Γ.2.2.1 (M.2.2 v0 18) = 15) <|
  rhck (0 ≤ ((5 * (M.1 v0 34)) + v1).toInt ∧ ((5 * (M.1 v0 34)) + v1).toInt < (Γ.2.2.2 (M.2.2 v0 18) : Nat)) <|
  if v1 = (M.1 v0 44) then
    (f_X12_roomOn_29 Γ M v0 v1 (M.1 (M.2.2 v0 18) ((5 * (M.1 v0 34)) + v1).toNatClampNeg) (M.1 v0 45))
  else
    f_X12_roomOn_29 Γ M v0 v1 (M.1 (M.2.2 v0 18) ((5 * (M.1 v0 34)) + v1).toNatClampNeg) 0
set_option maxHeartbeats 4000000 in
set_option maxRecDepth 100000 in
theorem b_X12_roomOn_37 {E : rhE} {Γ : rhG} {M : rhM} : ∀ (n : Nat) (v0 : Nat) (v1 : Int32) (v2 : Int32) (v3 : Int32), rhF E 5 4 yX12_roomOn cX12_roomOn (some .int) Γ (rhe0I Γ M) (f_X12_roomOn_37 Γ M n v0 v1 v2 v3) 37 [(0, rhR v0), (1, rhI v1), (2, rhI v2), (3, rhI v3)] [] Γ M := by
  intro n
  induction n with
  | zero => intro v0 v1 v2 v3; rw [f_X12_roomOn_37]; exact rhF.nope
  | succ n ih =>
    intro v0 v1 v2 v3
    rw [f_X12_roomOn_37]
    refine rhF.iload_n (pc := 37) dX12_roomOn_37 3 rfl ?_
    refine rhF.aload_n (pc := 38) dX12_roomOn_38 0 rfl ?_
    refine rhF.ck (fun h8 => ?_)
    refine rhF.get (pc := 39) (rhR _) dX12_roomOn_39 fl_X12_95 h8 rfl ?_
    refine rhF.iload_n (pc := 42) dX12_roomOn_42 1 rfl ?_
    refine rhF.ck (fun h9 => ?_)
    refine rhF.ck (fun h10 => ?_)
    refine rhF.iald (pc := 43) dX12_roomOn_43 h9 h10 ?_
    refine rhF.icmp_ge (pc := 44) 75 dX12_roomOn_44 (by decide) (fun h11 => ?_) (fun h11 => ?_)
    · refine rhF.iload_n (pc := 47) dX12_roomOn_47 2 rfl ?_
      refine rhF.aload_n (pc := 48) dX12_roomOn_48 0 rfl ?_
      refine rhF.get (pc := 49) (rhR _) dX12_roomOn_49 fl_X12_45 h8 rfl ?_
      refine rhF.bipush (pc := 52) (v := 8) dX12_roomOn_52 (by decide) ?_
      refine rhF.aload_n (pc := 54) dX12_roomOn_54 0 rfl ?_
      refine rhF.get (pc := 55) (rhI _) dX12_roomOn_55 fl_X12_327 h8 rfl ?_
      refine rhF.imul (pc := 58) dX12_roomOn_58 ?_
      refine rhF.aload_n (pc := 59) dX12_roomOn_59 0 rfl ?_
      refine rhF.get (pc := 60) (rhR _) dX12_roomOn_60 fl_X12_92 h8 rfl ?_
      refine rhF.iload_n (pc := 63) dX12_roomOn_63 3 rfl ?_
      refine rhF.ck (fun h12 => ?_)
      refine rhF.ck (fun h13 => ?_)
      refine rhF.iald (pc := 64) dX12_roomOn_64 h12 h13 ?_
      refine rhF.iadd (pc := 65) dX12_roomOn_65 ?_
      refine rhF.ck (fun h14 => ?_)
      refine rhF.ck (fun h15 => ?_)
      refine rhF.iald (pc := 66) dX12_roomOn_66 h14 h15 ?_
      refine rhF.isub (pc := 67) dX12_roomOn_67 ?_
      refine rhF.istore_n (pc := 68) (L' := [(2, rhI _), (0, rhR _), (1, rhI _), (3, rhI _)]) dX12_roomOn_68 (by decide) rfl ?_
      refine rhF.iinc (pc := 69) (L' := [(3, rhI _), (2, rhI _), (0, rhR _), (1, rhI _)]) dX12_roomOn_69 3 rfl rfl (by decide) rfl ?_
      refine rhF.goto (pc := 72) 37 dX12_roomOn_72 (by decide) ?_
      refine rhF.sub [2, 3, 1, 0] rfl ?_
      exact ih _ _ _ _
    · refine rhF.iload_n (pc := 75) dX12_roomOn_75 2 rfl ?_
      exact rhF.zret (pc := 76) dX12_roomOn_76 rfl rfl rfl
set_option maxHeartbeats 4000000 in
set_option maxRecDepth 100000 in
theorem b_X12_roomOn_29 {E : rhE} {Γ : rhG} {M : rhM} : ∀ (v0 : Nat) (v1 : Int32) (s0 : Int32) (s1 : Int32), rhF E 5 4 yX12_roomOn cX12_roomOn (some .int) Γ (rhe0I Γ M) (f_X12_roomOn_29 Γ M v0 v1 s0 s1) 29 [(0, rhR v0), (1, rhI v1)] [rhI s1, rhI s0] Γ M := by
  intro v0 v1 s0 s1
  rw [f_X12_roomOn_29]
  refine rhF.iadd (pc := 29) dX12_roomOn_29 ?_
  refine rhF.istore_n (pc := 30) (L' := [(2, rhI _), (0, rhR _), (1, rhI _)]) dX12_roomOn_30 (by decide) rfl ?_
  refine rhF.aload_n (pc := 31) dX12_roomOn_31 1 rfl ?_
  refine rhF.iload_n (pc := 32) dX12_roomOn_32 2 rfl ?_
  refine rhF.ck (fun h6 => ?_)
  refine rhF.callV (pc := 33) (ci := 12) (embc := rhe0I _ _) [rhI _] dX12_roomOn_33 ml_X12_425 mv_X12_beginOf ⟨_, rfl, rfl⟩ h6 (c_X12_beginOf _ _ _ _ _) (by decide) (by decide) rfl (Nat.le_of_ble_eq_true rfl) (fun r7 _ => ?_)
  refine rhF.istore_n (pc := 36) (L' := [(3, rhI _), (2, rhI _), (0, rhR _), (1, rhI _)]) dX12_roomOn_36 (by decide) rfl ?_
  refine rhF.sub [2, 3, 1, 0] rfl ?_
  exact (b_X12_roomOn_37 rhFU) _ _ _ _
set_option maxHeartbeats 4000000 in
set_option maxRecDepth 100000 in
theorem b_X12_roomOn {E : rhE} {Γ : rhG} {M : rhM} : ∀ (v0 : Nat) (v1 : Int32), rhF E 5 4 yX12_roomOn cX12_roomOn (some .int) Γ (rhe0I Γ M) (f_X12_roomOn Γ M v0 v1) 0 [(0, rhR v0), (1, rhI v1)] [] Γ M := by
  intro v0 v1
  rw [f_X12_roomOn]
  refine rhF.aload_n (pc := 0) dX12_roomOn_0 0 rfl ?_
  refine rhF.ck (fun h1 => ?_)
  refine rhF.get (pc := 1) (rhR _) dX12_roomOn_1 fl_X12_42 h1 rfl ?_
  refine rhF.iconst (pc := 4) (v := 5) dX12_roomOn_4 (by decide) ?_
  refine rhF.aload_n (pc := 5) dX12_roomOn_5 0 rfl ?_
  refine rhF.get (pc := 6) (rhI _) dX12_roomOn_6 fl_X12_327 h1 rfl ?_
  refine rhF.imul (pc := 9) dX12_roomOn_9 ?_
  refine rhF.iload_n (pc := 10) dX12_roomOn_10 1 rfl ?_
  refine rhF.iadd (pc := 11) dX12_roomOn_11 ?_
  refine rhF.ck (fun h2 => ?_)
  refine rhF.ck (fun h3 => ?_)
  refine rhF.iald (pc := 12) dX12_roomOn_12 h2 h3 ?_
  refine rhF.iload_n (pc := 13) dX12_roomOn_13 1 rfl ?_
  refine rhF.aload_n (pc := 14) dX12_roomOn_14 0 rfl ?_
  refine rhF.get (pc := 15) (rhI _) dX12_roomOn_15 fl_X12_107 h1 rfl ?_
  refine rhF.icmp_ne (pc := 18) 28 dX12_roomOn_18 (by decide) (fun h4 => ?_) (fun h4 => ?_)
  · refine rhF.aload_n (pc := 21) dX12_roomOn_21 0 rfl ?_
    refine rhF.get (pc := 22) (rhI _) dX12_roomOn_22 fl_X12_422 h1 rfl ?_
    refine rhF.goto (pc := 25) 29 dX12_roomOn_25 (by decide) ?_
    exact (b_X12_roomOn_29) _ _ _ _
  · refine rhF.iconst (pc := 28) (v := 0) dX12_roomOn_28 (by decide) ?_
    exact (b_X12_roomOn_29) _ _ _ _
theorem c_X12_roomOn (E : rhE) (Γ : rhG) (M : rhM) (v0 : Nat) (v1 : Int32) : ∀ a, f_X12_roomOn Γ M v0 v1 = some a → rhC E 5 yX12_roomOn cX12_roomOn 4 (some .int) [rhR v0, rhI v1] Γ M ((rhe0I Γ M) a) := rhF.met (by decide +kernel) (Nat.le_of_ble_eq_true rfl) (b_X12_roomOn v0 v1)
def f_X12_sumOf_13 (Γ : rhG) (M : rhM) : Nat → Nat → Nat → Int32 → Int32 → Int32 → Option (Int32)
  | 0, _, _, _, _, _ => none
  | n + 1, v0, v1, v2, v4, v5 =>
    rhck (Γ.2.2.1 v0 = 13) <|
    rhck (Γ.2.2.1 (M.2.2 v0 40) = 15) <|
    rhck (0 ≤ (v2).toInt ∧ (v2).toInt < (Γ.2.2.2 (M.2.2 v0 40) : Nat)) <|
    if v5 < (M.1 (M.2.2 v0 40) v2.toNatClampNeg) then
      (rhck (Γ.2.2.1 (M.2.2 v0 39) = 15) <|
      rhck (0 ≤ (v5).toInt ∧ (v5).toInt < (Γ.2.2.2 (M.2.2 v0 39) : Nat)) <|
      rhck (Γ.2.2.1 v1 = 15) <|
      rhck (0 ≤ ((8 * (M.1 v0 34)) + (M.1 (M.2.2 v0 39) v5.toNatClampNeg)).toInt ∧ ((8 * (M.1 v0 34)) + (M.1 (M.2.2 v0 39) v5.toNatClampNeg)).toInt < (Γ.2.2.2 v1 : Nat)) <|
      let x13 := v4 + (M.1 v1 ((8 * (M.1 v0 34)) + (M.1 (M.2.2 v0 39) v5.toNatClampNeg)).toNatClampNeg)
      let x14 : Int32 := v5 + 1
      f_X12_sumOf_13 Γ M n v0 v1 v2 x13 x14)
    else
      some v4
def f_X12_sumOf (Γ : rhG) (M : rhM) (v0 : Nat) (v1 : Nat) (v2 : Int32) (v3 : Int32) : Option (Int32) :=
  rhck (Γ.2.2.1 v0 = 13) <|
  rhck (Γ.2.2.1 (M.2.2 v0 40) = 15) <|
  rhck (0 ≤ (v2).toInt ∧ (v2).toInt < (Γ.2.2.2 (M.2.2 v0 40) : Nat)) <|
  let x4 := (M.1 (M.2.2 v0 40) v2.toNatClampNeg) - v3
  f_X12_sumOf_13 Γ M rhFU v0 v1 v2 0 x4
set_option maxHeartbeats 4000000 in
set_option maxRecDepth 100000 in
theorem b_X12_sumOf_13 {E : rhE} {Γ : rhG} {M : rhM} : ∀ (n : Nat) (v0 : Nat) (v1 : Nat) (v2 : Int32) (v4 : Int32) (v5 : Int32), rhF E 1 6 yX12_sumOf cX12_sumOf (some .int) Γ (rhe0I Γ M) (f_X12_sumOf_13 Γ M n v0 v1 v2 v4 v5) 13 [(0, rhR v0), (1, rhR v1), (2, rhI v2), (4, rhI v4), (5, rhI v5)] [] Γ M := by
  intro n
  induction n with
  | zero => intro v0 v1 v2 v4 v5; rw [f_X12_sumOf_13]; exact rhF.nope
  | succ n ih =>
    intro v0 v1 v2 v4 v5
    rw [f_X12_sumOf_13]
    refine rhF.iload (pc := 13) dX12_sumOf_13 4 rfl ?_
    refine rhF.aload_n (pc := 15) dX12_sumOf_15 0 rfl ?_
    refine rhF.ck (fun h5 => ?_)
    refine rhF.get (pc := 16) (rhR _) dX12_sumOf_16 fl_X12_95 h5 rfl ?_
    refine rhF.iload_n (pc := 19) dX12_sumOf_19 2 rfl ?_
    refine rhF.ck (fun h6 => ?_)
    refine rhF.ck (fun h7 => ?_)
    refine rhF.iald (pc := 20) dX12_sumOf_20 h6 h7 ?_
    refine rhF.icmp_ge (pc := 21) 52 dX12_sumOf_21 (by decide) (fun h8 => ?_) (fun h8 => ?_)
    · refine rhF.iload (pc := 24) dX12_sumOf_24 3 rfl ?_
      refine rhF.aload_n (pc := 26) dX12_sumOf_26 1 rfl ?_
      refine rhF.bipush (pc := 27) (v := 8) dX12_sumOf_27 (by decide) ?_
      refine rhF.aload_n (pc := 29) dX12_sumOf_29 0 rfl ?_
      refine rhF.get (pc := 30) (rhI _) dX12_sumOf_30 fl_X12_327 h5 rfl ?_
      refine rhF.imul (pc := 33) dX12_sumOf_33 ?_
      refine rhF.aload_n (pc := 34) dX12_sumOf_34 0 rfl ?_
      refine rhF.get (pc := 35) (rhR _) dX12_sumOf_35 fl_X12_92 h5 rfl ?_
      refine rhF.iload (pc := 38) dX12_sumOf_38 4 rfl ?_
      refine rhF.ck (fun h9 => ?_)
      refine rhF.ck (fun h10 => ?_)
      refine rhF.iald (pc := 40) dX12_sumOf_40 h9 h10 ?_
      refine rhF.iadd (pc := 41) dX12_sumOf_41 ?_
      refine rhF.ck (fun h11 => ?_)
      refine rhF.ck (fun h12 => ?_)
      refine rhF.iald (pc := 42) dX12_sumOf_42 h11 h12 ?_
      refine rhF.iadd (pc := 43) dX12_sumOf_43 ?_
      refine rhF.istore (pc := 44) (L' := [(4, rhI _), (0, rhR _), (1, rhR _), (2, rhI _), (5, rhI _)]) dX12_sumOf_44 (by decide) rfl ?_
      refine rhF.iinc (pc := 46) (L' := [(5, rhI _), (4, rhI _), (0, rhR _), (1, rhR _), (2, rhI _)]) dX12_sumOf_46 4 rfl rfl (by decide) rfl ?_
      refine rhF.goto (pc := 49) 13 dX12_sumOf_49 (by decide) ?_
      refine rhF.sub [2, 3, 4, 1, 0] rfl ?_
      exact ih _ _ _ _ _
    · refine rhF.iload (pc := 52) dX12_sumOf_52 3 rfl ?_
      exact rhF.zret (pc := 54) dX12_sumOf_54 rfl rfl rfl
set_option maxHeartbeats 4000000 in
set_option maxRecDepth 100000 in
theorem b_X12_sumOf {E : rhE} {Γ : rhG} {M : rhM} : ∀ (v0 : Nat) (v1 : Nat) (v2 : Int32) (v3 : Int32), rhF E 1 6 yX12_sumOf cX12_sumOf (some .int) Γ (rhe0I Γ M) (f_X12_sumOf Γ M v0 v1 v2 v3) 0 [(0, rhR v0), (1, rhR v1), (2, rhI v2), (3, rhI v3)] [] Γ M := by
  intro v0 v1 v2 v3
  rw [f_X12_sumOf]
  refine rhF.iconst (pc := 0) (v := 0) dX12_sumOf_0 (by decide) ?_
  refine rhF.istore (pc := 1) (L' := [(4, rhI _), (0, rhR _), (1, rhR _), (2, rhI _), (3, rhI _)]) dX12_sumOf_1 (by decide) rfl ?_
  refine rhF.aload_n (pc := 3) dX12_sumOf_3 1 rfl ?_
  refine rhF.ck (fun h1 => ?_)
  refine rhF.get (pc := 4) (rhR _) dX12_sumOf_4 fl_X12_95 h1 rfl ?_
  refine rhF.iload_n (pc := 7) dX12_sumOf_7 3 rfl ?_
  refine rhF.ck (fun h2 => ?_)
  refine rhF.ck (fun h3 => ?_)
  refine rhF.iald (pc := 8) dX12_sumOf_8 h2 h3 ?_
  refine rhF.iload_n (pc := 9) dX12_sumOf_9 4 rfl ?_
  refine rhF.isub (pc := 10) dX12_sumOf_10 ?_
  refine rhF.istore (pc := 11) (L' := [(5, rhI _), (4, rhI _), (0, rhR _), (1, rhR _), (2, rhI _), (3, rhI _)]) dX12_sumOf_11 (by decide) rfl ?_
  refine rhF.sub [2, 3, 4, 1, 0] rfl ?_
  exact (b_X12_sumOf_13 rhFU) _ _ _ _ _
theorem c_X12_sumOf (E : rhE) (Γ : rhG) (M : rhM) (v0 : Nat) (v1 : Nat) (v2 : Int32) (v3 : Int32) : ∀ a, f_X12_sumOf Γ M v0 v1 v2 v3 = some a → rhC E 1 yX12_sumOf cX12_sumOf 6 (some .int) [rhR v0, rhR v1, rhI v2, rhI v3] Γ M ((rhe0I Γ M) a) := rhF.met (by decide +kernel) (Nat.le_of_ble_eq_true rfl) (b_X12_sumOf v0 v1 v2 v3)
def f_X12_amount_145 (Γ : rhG) (M : rhM) : Nat → Nat → Int32 → Int32 → Int32 → Option (Int32)
  | 0, _, _, _, _ => none
  | n + 1, v0, v1, v2, v5 =>
    rhck (Γ.2.2.1 v0 = 13) <|
    rhck (Γ.2.2.1 (M.2.2 v0 40) = 15) <|
    rhck (0 ≤ (v2).toInt ∧ (v2).toInt < (Γ.2.2.2 (M.2.2 v0 40) : Nat)) <|
    if v5 < (M.1 (M.2.2 v0 40) v2.toNatClampNeg) then
      (rhck (Γ.2.2.1 (M.2.2 v0 39) = 15) <|
      rhck (0 ≤ (v5).toInt ∧ (v5).toInt < (Γ.2.2.2 (M.2.2 v0 39) : Nat)) <|
      rhck (Γ.2.2.1 (M.2.2 v0 30) = 15) <|
      rhck (0 ≤ (v1).toInt ∧ (v1).toInt < (Γ.2.2.2 (M.2.2 v0 30) : Nat)) <|
      if (M.1 (M.2.2 v0 39) v5.toNatClampNeg) = (M.1 (M.2.2 v0 30) v1.toNatClampNeg) then
        (some 1)
      else
        let x18 : Int32 := v5 + 1
        f_X12_amount_145 Γ M n v0 v1 v2 x18)
    else
      some 0
def f_X12_amount (Γ : rhG) (M : rhM) (v0 : Nat) (v1 : Int32) (v2 : Int32) (v3 : Int32) (v4 : Int32) : Option (Int32) :=
  rhck (Γ.2.2.1 v0 = 13) <|
  rhck (Γ.2.2.1 (M.2.2 v0 29) = 15) <|
  rhck (0 ≤ (v1).toInt ∧ (v1).toInt < (Γ.2.2.2 (M.2.2 v0 29) : Nat)) <|
  if (M.1 (M.2.2 v0 29) v1.toNatClampNeg) = 102 then
    (some v2)
  else
  if (M.1 (M.2.2 v0 29) v1.toNatClampNeg) = 103 then
    (rhck (Γ.2.2.1 (M.2.2 v0 40) = 15) <|
    rhck (0 ≤ (v2).toInt ∧ (v2).toInt < (Γ.2.2.2 (M.2.2 v0 40) : Nat)) <|
    let x8 := (M.1 (M.2.2 v0 40) v2.toNatClampNeg) - v3
    f_X12_amount_145 Γ M rhFU v0 v1 v2 x8)
  else
  if (M.1 (M.2.2 v0 29) v1.toNatClampNeg) = 104 then
    (rhck (Γ.2.2.1 (M.2.2 v0 40) = 15) <|
    rhck (0 ≤ (v2).toInt ∧ (v2).toInt < (Γ.2.2.2 (M.2.2 v0 40) : Nat)) <|
    let x22 := (M.1 (M.2.2 v0 40) v2.toNatClampNeg) - v3
    f_X12_amount_145 Γ M rhFU v0 v1 v2 x22)
  else
  if (M.1 (M.2.2 v0 29) v1.toNatClampNeg) = 105 then
    (rhck (Γ.2.2.1 (M.2.2 v0 40) = 15) <|
    rhck (0 ≤ (v2).toInt ∧ (v2).toInt < (Γ.2.2.2 (M.2.2 v0 40) : Nat)) <|
    let x26 := (M.1 (M.2.2 v0 40) v2.toNatClampNeg) - v3
    f_X12_amount_145 Γ M rhFU v0 v1 v2 x26)
  else
  if (M.1 (M.2.2 v0 29) v1.toNatClampNeg) = 106 then
    (rhck (Γ.2.2.1 (M.2.2 v0 40) = 15) <|
    rhck (0 ≤ (v2).toInt ∧ (v2).toInt < (Γ.2.2.2 (M.2.2 v0 40) : Nat)) <|
    let x30 := (M.1 (M.2.2 v0 40) v2.toNatClampNeg) - v3
    f_X12_amount_145 Γ M rhFU v0 v1 v2 x30)
  else
  if (M.1 (M.2.2 v0 29) v1.toNatClampNeg) = 107 then
    (rhck (Γ.2.2.1 (M.2.2 v0 40) = 15) <|
    rhck (0 ≤ (v2).toInt ∧ (v2).toInt < (Γ.2.2.2 (M.2.2 v0 40) : Nat)) <|
    let x34 := (M.1 (M.2.2 v0 40) v2.toNatClampNeg) - v3
    f_X12_amount_145 Γ M rhFU v0 v1 v2 x34)
  else
  if (M.1 (M.2.2 v0 29) v1.toNatClampNeg) = 108 then
    ((f_X12_sumOf Γ M v0 (M.2.2 v0 19) v2 v3).bind fun r36 =>
    some r36)
  else
  if (M.1 (M.2.2 v0 29) v1.toNatClampNeg) = 109 then
    (some v3)
  else
  if (M.1 (M.2.2 v0 29) v1.toNatClampNeg) = 110 then
    (rhck (Γ.2.2.1 (M.2.2 v0 30) = 15) <|
    rhck (0 ≤ (v1).toInt ∧ (v1).toInt < (Γ.2.2.2 (M.2.2 v0 30) : Nat)) <|
    some (M.1 (M.2.2 v0 30) v1.toNatClampNeg))
  else
  if (M.1 (M.2.2 v0 29) v1.toNatClampNeg) = 111 then
    (rhck (Γ.2.2.1 (M.2.2 v0 40) = 15) <|
    rhck (0 ≤ (v2).toInt ∧ (v2).toInt < (Γ.2.2.2 (M.2.2 v0 40) : Nat)) <|
    let x44 := (M.1 (M.2.2 v0 40) v2.toNatClampNeg) - v3
    f_X12_amount_145 Γ M rhFU v0 v1 v2 x44)
  else
  if (M.1 (M.2.2 v0 29) v1.toNatClampNeg) = 112 then
    (rhck (Γ.2.2.1 (M.2.2 v0 40) = 15) <|
    rhck (0 ≤ (v2).toInt ∧ (v2).toInt < (Γ.2.2.2 (M.2.2 v0 40) : Nat)) <|
    let x48 := (M.1 (M.2.2 v0 40) v2.toNatClampNeg) - v3
    f_X12_amount_145 Γ M rhFU v0 v1 v2 x48)
  else
  if (M.1 (M.2.2 v0 29) v1.toNatClampNeg) = 113 then
    (rhck (Γ.2.2.1 (M.2.2 v0 40) = 15) <|
    rhck (0 ≤ (v2).toInt ∧ (v2).toInt < (Γ.2.2.2 (M.2.2 v0 40) : Nat)) <|
    let x52 := (M.1 (M.2.2 v0 40) v2.toNatClampNeg) - v3
    f_X12_amount_145 Γ M rhFU v0 v1 v2 x52)
  else
  if (M.1 (M.2.2 v0 29) v1.toNatClampNeg) = 114 then
    ((f_X12_roomOn Γ M v0 v4).bind fun r54 =>
    some r54)
  else
  if (M.1 (M.2.2 v0 29) v1.toNatClampNeg) = 115 then
    (rhck (Γ.2.2.1 (M.2.2 v0 40) = 15) <|
    rhck (0 ≤ (v2).toInt ∧ (v2).toInt < (Γ.2.2.2 (M.2.2 v0 40) : Nat)) <|
    let x58 := (M.1 (M.2.2 v0 40) v2.toNatClampNeg) - v3
    f_X12_amount_145 Γ M rhFU v0 v1 v2 x58)
  else
  if (M.1 (M.2.2 v0 29) v1.toNatClampNeg) = 116 then
    (some v4)
  else
  if (M.1 (M.2.2 v0 29) v1.toNatClampNeg) = 117 then
    (rhck (Γ.2.2.1 (M.2.2 v0 40) = 15) <|
    rhck (0 ≤ (v2).toInt ∧ (v2).toInt < (Γ.2.2.2 (M.2.2 v0 40) : Nat)) <|
    let x63 := (M.1 (M.2.2 v0 40) v2.toNatClampNeg) - v3
    f_X12_amount_145 Γ M rhFU v0 v1 v2 x63)
  else
  if (M.1 (M.2.2 v0 29) v1.toNatClampNeg) = 118 then
    (rhck (Γ.2.2.1 (M.2.2 v0 40) = 15) <|
    rhck (0 ≤ (v2).toInt ∧ (v2).toInt < (Γ.2.2.2 (M.2.2 v0 40) : Nat)) <|
    let x67 := (M.1 (M.2.2 v0 40) v2.toNatClampNeg) - v3
    f_X12_amount_145 Γ M rhFU v0 v1 v2 x67)
  else
  if (M.1 (M.2.2 v0 29) v1.toNatClampNeg) = 119 then
    ((f_X12_sumOf Γ M v0 (M.2.2 v0 20) v2 v3).bind fun r69 =>
    some r69)
  else
  rhck (Γ.2.2.1 (M.2.2 v0 40) = 15) <|
  rhck (0 ≤ (v2).toInt ∧ (v2).toInt < (Γ.2.2.2 (M.2.2 v0 40) : Nat)) <|
  let x72 := (M.1 (M.2.2 v0 40) v2.toNatClampNeg) - v3
  f_X12_amount_145 Γ M rhFU v0 v1 v2 x72
set_option maxHeartbeats 4000000 in
set_option maxRecDepth 100000 in
theorem b_X12_amount_145 {E : rhE} {Γ : rhG} {M : rhM} : ∀ (n : Nat) (v0 : Nat) (v1 : Int32) (v2 : Int32) (v5 : Int32), rhF E 6 6 yX12_amount cX12_amount (some .int) Γ (rhe0I Γ M) (f_X12_amount_145 Γ M n v0 v1 v2 v5) 145 [(0, rhR v0), (1, rhI v1), (2, rhI v2), (5, rhI v5)] [] Γ M := by
  intro n
  induction n with
  | zero => intro v0 v1 v2 v5; rw [f_X12_amount_145]; exact rhF.nope
  | succ n ih =>
    intro v0 v1 v2 v5
    rw [f_X12_amount_145]
    refine rhF.iload (pc := 145) dX12_amount_145 3 rfl ?_
    refine rhF.aload_n (pc := 147) dX12_amount_147 0 rfl ?_
    refine rhF.ck (fun h9 => ?_)
    refine rhF.get (pc := 148) (rhR _) dX12_amount_148 fl_X12_95 h9 rfl ?_
    refine rhF.iload_n (pc := 151) dX12_amount_151 2 rfl ?_
    refine rhF.ck (fun h10 => ?_)
    refine rhF.ck (fun h11 => ?_)
    refine rhF.iald (pc := 152) dX12_amount_152 h10 h11 ?_
    refine rhF.icmp_ge (pc := 153) 180 dX12_amount_153 (by decide) (fun h12 => ?_) (fun h12 => ?_)
    · refine rhF.aload_n (pc := 156) dX12_amount_156 0 rfl ?_
      refine rhF.get (pc := 157) (rhR _) dX12_amount_157 fl_X12_92 h9 rfl ?_
      refine rhF.iload (pc := 160) dX12_amount_160 3 rfl ?_
      refine rhF.ck (fun h13 => ?_)
      refine rhF.ck (fun h14 => ?_)
      refine rhF.iald (pc := 162) dX12_amount_162 h13 h14 ?_
      refine rhF.aload_n (pc := 163) dX12_amount_163 0 rfl ?_
      refine rhF.get (pc := 164) (rhR _) dX12_amount_164 fl_X12_80 h9 rfl ?_
      refine rhF.iload_n (pc := 167) dX12_amount_167 1 rfl ?_
      refine rhF.ck (fun h15 => ?_)
      refine rhF.ck (fun h16 => ?_)
      refine rhF.iald (pc := 168) dX12_amount_168 h15 h16 ?_
      refine rhF.icmp_ne (pc := 169) 174 dX12_amount_169 (by decide) (fun h17 => ?_) (fun h17 => ?_)
      · refine rhF.iconst (pc := 172) (v := 1) dX12_amount_172 (by decide) ?_
        exact rhF.zret (pc := 173) dX12_amount_173 rfl rfl rfl
      · refine rhF.iinc (pc := 174) (L' := [(5, rhI _), (0, rhR _), (1, rhI _), (2, rhI _)]) dX12_amount_174 3 rfl rfl (by decide) rfl ?_
        refine rhF.goto (pc := 177) 145 dX12_amount_177 (by decide) ?_
        refine rhF.sub [1, 2, 3, 0] rfl ?_
        exact ih _ _ _ _
    · refine rhF.iconst (pc := 180) (v := 0) dX12_amount_180 (by decide) ?_
      exact rhF.zret (pc := 181) dX12_amount_181 rfl rfl rfl
set_option maxHeartbeats 4000000 in
set_option maxRecDepth 100000 in
theorem b_X12_amount {E : rhE} {Γ : rhG} {M : rhM} : ∀ (v0 : Nat) (v1 : Int32) (v2 : Int32) (v3 : Int32) (v4 : Int32), rhF E 6 6 yX12_amount cX12_amount (some .int) Γ (rhe0I Γ M) (f_X12_amount Γ M v0 v1 v2 v3 v4) 0 [(0, rhR v0), (1, rhI v1), (2, rhI v2), (3, rhI v3), (4, rhI v4)] [] Γ M := by
  intro v0 v1 v2 v3 v4
  rw [f_X12_amount]
  refine rhF.aload_n (pc := 0) dX12_amount_0 0 rfl ?_
  refine rhF.ck (fun h1 => ?_)
  refine rhF.get (pc := 1) (rhR _) dX12_amount_1 fl_X12_77 h1 rfl ?_
  refine rhF.iload_n (pc := 4) dX12_amount_4 1 rfl ?_
  refine rhF.ck (fun h2 => ?_)
  refine rhF.ck (fun h3 => ?_)
  refine rhF.iald (pc := 5) dX12_amount_5 h2 h3 ?_
  refine rhF.ite (fun h4 => ?_) (fun h4 => ?_)
  · refine rhF.tsIn (pc := 6) 123 102 dX12_amount_6 (by rw [h4]; decide) (by decide) rfl (by decide) ?_
    refine rhF.iload_n (pc := 123) dX12_amount_123 2 rfl ?_
    exact rhF.zret (pc := 124) dX12_amount_124 rfl rfl rfl
  · skip
    refine rhF.ite (fun h5 => ?_) (fun h5 => ?_)
    · refine rhF.tsIn (pc := 6) 135 103 dX12_amount_6 (by rw [h5]; decide) (by decide) rfl (by decide) ?_
      refine rhF.aload_n (pc := 135) dX12_amount_135 0 rfl ?_
      refine rhF.get (pc := 136) (rhR _) dX12_amount_136 fl_X12_95 h1 rfl ?_
      refine rhF.iload_n (pc := 139) dX12_amount_139 2 rfl ?_
      refine rhF.ck (fun h6 => ?_)
      refine rhF.ck (fun h7 => ?_)
      refine rhF.iald (pc := 140) dX12_amount_140 h6 h7 ?_
      refine rhF.iload_n (pc := 141) dX12_amount_141 3 rfl ?_
      refine rhF.isub (pc := 142) dX12_amount_142 ?_
      refine rhF.istore (pc := 143) (L' := [(5, rhI _), (0, rhR _), (1, rhI _), (2, rhI _), (3, rhI _), (4, rhI _)]) dX12_amount_143 (by decide) rfl ?_
      refine rhF.sub [1, 2, 3, 0] rfl ?_
      exact (b_X12_amount_145 rhFU) _ _ _ _
    · skip
      refine rhF.ite (fun h19 => ?_) (fun h19 => ?_)
      · refine rhF.tsIn (pc := 6) 135 104 dX12_amount_6 (by rw [h19]; decide) (by decide) rfl (by decide) ?_
        refine rhF.aload_n (pc := 135) dX12_amount_135 0 rfl ?_
        refine rhF.get (pc := 136) (rhR _) dX12_amount_136 fl_X12_95 h1 rfl ?_
        refine rhF.iload_n (pc := 139) dX12_amount_139 2 rfl ?_
        refine rhF.ck (fun h20 => ?_)
        refine rhF.ck (fun h21 => ?_)
        refine rhF.iald (pc := 140) dX12_amount_140 h20 h21 ?_
        refine rhF.iload_n (pc := 141) dX12_amount_141 3 rfl ?_
        refine rhF.isub (pc := 142) dX12_amount_142 ?_
        refine rhF.istore (pc := 143) (L' := [(5, rhI _), (0, rhR _), (1, rhI _), (2, rhI _), (3, rhI _), (4, rhI _)]) dX12_amount_143 (by decide) rfl ?_
        refine rhF.sub [1, 2, 3, 0] rfl ?_
        exact (b_X12_amount_145 rhFU) _ _ _ _
      · skip
        refine rhF.ite (fun h23 => ?_) (fun h23 => ?_)
        · refine rhF.tsIn (pc := 6) 135 105 dX12_amount_6 (by rw [h23]; decide) (by decide) rfl (by decide) ?_
          refine rhF.aload_n (pc := 135) dX12_amount_135 0 rfl ?_
          refine rhF.get (pc := 136) (rhR _) dX12_amount_136 fl_X12_95 h1 rfl ?_
          refine rhF.iload_n (pc := 139) dX12_amount_139 2 rfl ?_
          refine rhF.ck (fun h24 => ?_)
          refine rhF.ck (fun h25 => ?_)
          refine rhF.iald (pc := 140) dX12_amount_140 h24 h25 ?_
          refine rhF.iload_n (pc := 141) dX12_amount_141 3 rfl ?_
          refine rhF.isub (pc := 142) dX12_amount_142 ?_
          refine rhF.istore (pc := 143) (L' := [(5, rhI _), (0, rhR _), (1, rhI _), (2, rhI _), (3, rhI _), (4, rhI _)]) dX12_amount_143 (by decide) rfl ?_
          refine rhF.sub [1, 2, 3, 0] rfl ?_
          exact (b_X12_amount_145 rhFU) _ _ _ _
        · skip
          refine rhF.ite (fun h27 => ?_) (fun h27 => ?_)
          · refine rhF.tsIn (pc := 6) 135 106 dX12_amount_6 (by rw [h27]; decide) (by decide) rfl (by decide) ?_
            refine rhF.aload_n (pc := 135) dX12_amount_135 0 rfl ?_
            refine rhF.get (pc := 136) (rhR _) dX12_amount_136 fl_X12_95 h1 rfl ?_
            refine rhF.iload_n (pc := 139) dX12_amount_139 2 rfl ?_
            refine rhF.ck (fun h28 => ?_)
            refine rhF.ck (fun h29 => ?_)
            refine rhF.iald (pc := 140) dX12_amount_140 h28 h29 ?_
            refine rhF.iload_n (pc := 141) dX12_amount_141 3 rfl ?_
            refine rhF.isub (pc := 142) dX12_amount_142 ?_
            refine rhF.istore (pc := 143) (L' := [(5, rhI _), (0, rhR _), (1, rhI _), (2, rhI _), (3, rhI _), (4, rhI _)]) dX12_amount_143 (by decide) rfl ?_
            refine rhF.sub [1, 2, 3, 0] rfl ?_
            exact (b_X12_amount_145 rhFU) _ _ _ _
          · skip
            refine rhF.ite (fun h31 => ?_) (fun h31 => ?_)
            · refine rhF.tsIn (pc := 6) 135 107 dX12_amount_6 (by rw [h31]; decide) (by decide) rfl (by decide) ?_
              refine rhF.aload_n (pc := 135) dX12_amount_135 0 rfl ?_
              refine rhF.get (pc := 136) (rhR _) dX12_amount_136 fl_X12_95 h1 rfl ?_
              refine rhF.iload_n (pc := 139) dX12_amount_139 2 rfl ?_
              refine rhF.ck (fun h32 => ?_)
              refine rhF.ck (fun h33 => ?_)
              refine rhF.iald (pc := 140) dX12_amount_140 h32 h33 ?_
              refine rhF.iload_n (pc := 141) dX12_amount_141 3 rfl ?_
              refine rhF.isub (pc := 142) dX12_amount_142 ?_
              refine rhF.istore (pc := 143) (L' := [(5, rhI _), (0, rhR _), (1, rhI _), (2, rhI _), (3, rhI _), (4, rhI _)]) dX12_amount_143 (by decide) rfl ?_
              refine rhF.sub [1, 2, 3, 0] rfl ?_
              exact (b_X12_amount_145 rhFU) _ _ _ _
            · skip
              refine rhF.ite (fun h35 => ?_) (fun h35 => ?_)
              · refine rhF.tsIn (pc := 6) 112 108 dX12_amount_6 (by rw [h35]; decide) (by decide) rfl (by decide) ?_
                refine rhF.aload_n (pc := 112) dX12_amount_112 0 rfl ?_
                refine rhF.aload_n (pc := 113) dX12_amount_113 0 rfl ?_
                refine rhF.get (pc := 114) (rhR _) dX12_amount_114 fl_X12_45 h1 rfl ?_
                refine rhF.iload_n (pc := 117) dX12_amount_117 2 rfl ?_
                refine rhF.iload_n (pc := 118) dX12_amount_118 3 rfl ?_
                refine rhF.callV (pc := 119) (ci := 12) (embc := rhe0I _ _) [rhR _, rhI _, rhI _] dX12_amount_119 ml_X12_431 mv_X12_sumOf ⟨_, rfl, rfl⟩ h1 (c_X12_sumOf _ _ _ _ _ _ _) (by decide) (by decide) rfl (Nat.le_of_ble_eq_true rfl) (fun r36 _ => ?_)
                exact rhF.zret (pc := 122) dX12_amount_122 rfl rfl rfl
              · skip
                refine rhF.ite (fun h37 => ?_) (fun h37 => ?_)
                · refine rhF.tsIn (pc := 6) 99 109 dX12_amount_6 (by rw [h37]; decide) (by decide) rfl (by decide) ?_
                  refine rhF.iload_n (pc := 99) dX12_amount_99 3 rfl ?_
                  exact rhF.zret (pc := 100) dX12_amount_100 rfl rfl rfl
                · skip
                  refine rhF.ite (fun h38 => ?_) (fun h38 => ?_)
                  · refine rhF.tsIn (pc := 6) 92 110 dX12_amount_6 (by rw [h38]; decide) (by decide) rfl (by decide) ?_
                    refine rhF.aload_n (pc := 92) dX12_amount_92 0 rfl ?_
                    refine rhF.get (pc := 93) (rhR _) dX12_amount_93 fl_X12_80 h1 rfl ?_
                    refine rhF.iload_n (pc := 96) dX12_amount_96 1 rfl ?_
                    refine rhF.ck (fun h39 => ?_)
                    refine rhF.ck (fun h40 => ?_)
                    refine rhF.iald (pc := 97) dX12_amount_97 h39 h40 ?_
                    exact rhF.zret (pc := 98) dX12_amount_98 rfl rfl rfl
                  · skip
                    refine rhF.ite (fun h41 => ?_) (fun h41 => ?_)
                    · refine rhF.tsIn (pc := 6) 135 111 dX12_amount_6 (by rw [h41]; decide) (by decide) rfl (by decide) ?_
                      refine rhF.aload_n (pc := 135) dX12_amount_135 0 rfl ?_
                      refine rhF.get (pc := 136) (rhR _) dX12_amount_136 fl_X12_95 h1 rfl ?_
                      refine rhF.iload_n (pc := 139) dX12_amount_139 2 rfl ?_
                      refine rhF.ck (fun h42 => ?_)
                      refine rhF.ck (fun h43 => ?_)
                      refine rhF.iald (pc := 140) dX12_amount_140 h42 h43 ?_
                      refine rhF.iload_n (pc := 141) dX12_amount_141 3 rfl ?_
                      refine rhF.isub (pc := 142) dX12_amount_142 ?_
                      refine rhF.istore (pc := 143) (L' := [(5, rhI _), (0, rhR _), (1, rhI _), (2, rhI _), (3, rhI _), (4, rhI _)]) dX12_amount_143 (by decide) rfl ?_
                      refine rhF.sub [1, 2, 3, 0] rfl ?_
                      exact (b_X12_amount_145 rhFU) _ _ _ _
                    · skip
                      refine rhF.ite (fun h45 => ?_) (fun h45 => ?_)
                      · refine rhF.tsIn (pc := 6) 135 112 dX12_amount_6 (by rw [h45]; decide) (by decide) rfl (by decide) ?_
                        refine rhF.aload_n (pc := 135) dX12_amount_135 0 rfl ?_
                        refine rhF.get (pc := 136) (rhR _) dX12_amount_136 fl_X12_95 h1 rfl ?_
                        refine rhF.iload_n (pc := 139) dX12_amount_139 2 rfl ?_
                        refine rhF.ck (fun h46 => ?_)
                        refine rhF.ck (fun h47 => ?_)
                        refine rhF.iald (pc := 140) dX12_amount_140 h46 h47 ?_
                        refine rhF.iload_n (pc := 141) dX12_amount_141 3 rfl ?_
                        refine rhF.isub (pc := 142) dX12_amount_142 ?_
                        refine rhF.istore (pc := 143) (L' := [(5, rhI _), (0, rhR _), (1, rhI _), (2, rhI _), (3, rhI _), (4, rhI _)]) dX12_amount_143 (by decide) rfl ?_
                        refine rhF.sub [1, 2, 3, 0] rfl ?_
                        exact (b_X12_amount_145 rhFU) _ _ _ _
                      · skip
                        refine rhF.ite (fun h49 => ?_) (fun h49 => ?_)
                        · refine rhF.tsIn (pc := 6) 135 113 dX12_amount_6 (by rw [h49]; decide) (by decide) rfl (by decide) ?_
                          refine rhF.aload_n (pc := 135) dX12_amount_135 0 rfl ?_
                          refine rhF.get (pc := 136) (rhR _) dX12_amount_136 fl_X12_95 h1 rfl ?_
                          refine rhF.iload_n (pc := 139) dX12_amount_139 2 rfl ?_
                          refine rhF.ck (fun h50 => ?_)
                          refine rhF.ck (fun h51 => ?_)
                          refine rhF.iald (pc := 140) dX12_amount_140 h50 h51 ?_
                          refine rhF.iload_n (pc := 141) dX12_amount_141 3 rfl ?_
                          refine rhF.isub (pc := 142) dX12_amount_142 ?_
                          refine rhF.istore (pc := 143) (L' := [(5, rhI _), (0, rhR _), (1, rhI _), (2, rhI _), (3, rhI _), (4, rhI _)]) dX12_amount_143 (by decide) rfl ?_
                          refine rhF.sub [1, 2, 3, 0] rfl ?_
                          exact (b_X12_amount_145 rhFU) _ _ _ _
                        · skip
                          refine rhF.ite (fun h53 => ?_) (fun h53 => ?_)
                          · refine rhF.tsIn (pc := 6) 128 114 dX12_amount_6 (by rw [h53]; decide) (by decide) rfl (by decide) ?_
                            refine rhF.aload_n (pc := 128) dX12_amount_128 0 rfl ?_
                            refine rhF.iload (pc := 129) dX12_amount_129 4 rfl ?_
                            refine rhF.callV (pc := 131) (ci := 12) (embc := rhe0I _ _) [rhI _] dX12_amount_131 ml_X12_435 mv_X12_roomOn ⟨_, rfl, rfl⟩ h1 (c_X12_roomOn _ _ _ _ _) (by decide) (by decide) rfl (Nat.le_of_ble_eq_true rfl) (fun r54 _ => ?_)
                            exact rhF.zret (pc := 134) dX12_amount_134 rfl rfl rfl
                          · skip
                            refine rhF.ite (fun h55 => ?_) (fun h55 => ?_)
                            · refine rhF.tsIn (pc := 6) 135 115 dX12_amount_6 (by rw [h55]; decide) (by decide) rfl (by decide) ?_
                              refine rhF.aload_n (pc := 135) dX12_amount_135 0 rfl ?_
                              refine rhF.get (pc := 136) (rhR _) dX12_amount_136 fl_X12_95 h1 rfl ?_
                              refine rhF.iload_n (pc := 139) dX12_amount_139 2 rfl ?_
                              refine rhF.ck (fun h56 => ?_)
                              refine rhF.ck (fun h57 => ?_)
                              refine rhF.iald (pc := 140) dX12_amount_140 h56 h57 ?_
                              refine rhF.iload_n (pc := 141) dX12_amount_141 3 rfl ?_
                              refine rhF.isub (pc := 142) dX12_amount_142 ?_
                              refine rhF.istore (pc := 143) (L' := [(5, rhI _), (0, rhR _), (1, rhI _), (2, rhI _), (3, rhI _), (4, rhI _)]) dX12_amount_143 (by decide) rfl ?_
                              refine rhF.sub [1, 2, 3, 0] rfl ?_
                              exact (b_X12_amount_145 rhFU) _ _ _ _
                            · skip
                              refine rhF.ite (fun h59 => ?_) (fun h59 => ?_)
                              · refine rhF.tsIn (pc := 6) 125 116 dX12_amount_6 (by rw [h59]; decide) (by decide) rfl (by decide) ?_
                                refine rhF.iload (pc := 125) dX12_amount_125 4 rfl ?_
                                exact rhF.zret (pc := 127) dX12_amount_127 rfl rfl rfl
                              · skip
                                refine rhF.ite (fun h60 => ?_) (fun h60 => ?_)
                                · refine rhF.tsIn (pc := 6) 135 117 dX12_amount_6 (by rw [h60]; decide) (by decide) rfl (by decide) ?_
                                  refine rhF.aload_n (pc := 135) dX12_amount_135 0 rfl ?_
                                  refine rhF.get (pc := 136) (rhR _) dX12_amount_136 fl_X12_95 h1 rfl ?_
                                  refine rhF.iload_n (pc := 139) dX12_amount_139 2 rfl ?_
                                  refine rhF.ck (fun h61 => ?_)
                                  refine rhF.ck (fun h62 => ?_)
                                  refine rhF.iald (pc := 140) dX12_amount_140 h61 h62 ?_
                                  refine rhF.iload_n (pc := 141) dX12_amount_141 3 rfl ?_
                                  refine rhF.isub (pc := 142) dX12_amount_142 ?_
                                  refine rhF.istore (pc := 143) (L' := [(5, rhI _), (0, rhR _), (1, rhI _), (2, rhI _), (3, rhI _), (4, rhI _)]) dX12_amount_143 (by decide) rfl ?_
                                  refine rhF.sub [1, 2, 3, 0] rfl ?_
                                  exact (b_X12_amount_145 rhFU) _ _ _ _
                                · skip
                                  refine rhF.ite (fun h64 => ?_) (fun h64 => ?_)
                                  · refine rhF.tsIn (pc := 6) 135 118 dX12_amount_6 (by rw [h64]; decide) (by decide) rfl (by decide) ?_
                                    refine rhF.aload_n (pc := 135) dX12_amount_135 0 rfl ?_
                                    refine rhF.get (pc := 136) (rhR _) dX12_amount_136 fl_X12_95 h1 rfl ?_
                                    refine rhF.iload_n (pc := 139) dX12_amount_139 2 rfl ?_
                                    refine rhF.ck (fun h65 => ?_)
                                    refine rhF.ck (fun h66 => ?_)
                                    refine rhF.iald (pc := 140) dX12_amount_140 h65 h66 ?_
                                    refine rhF.iload_n (pc := 141) dX12_amount_141 3 rfl ?_
                                    refine rhF.isub (pc := 142) dX12_amount_142 ?_
                                    refine rhF.istore (pc := 143) (L' := [(5, rhI _), (0, rhR _), (1, rhI _), (2, rhI _), (3, rhI _), (4, rhI _)]) dX12_amount_143 (by decide) rfl ?_
                                    refine rhF.sub [1, 2, 3, 0] rfl ?_
                                    exact (b_X12_amount_145 rhFU) _ _ _ _
                                  · skip
                                    refine rhF.ite (fun h68 => ?_) (fun h68 => ?_)
                                    · refine rhF.tsIn (pc := 6) 101 119 dX12_amount_6 (by rw [h68]; decide) (by decide) rfl (by decide) ?_
                                      refine rhF.aload_n (pc := 101) dX12_amount_101 0 rfl ?_
                                      refine rhF.aload_n (pc := 102) dX12_amount_102 0 rfl ?_
                                      refine rhF.get (pc := 103) (rhR _) dX12_amount_103 fl_X12_48 h1 rfl ?_
                                      refine rhF.iload_n (pc := 106) dX12_amount_106 2 rfl ?_
                                      refine rhF.iload_n (pc := 107) dX12_amount_107 3 rfl ?_
                                      refine rhF.callV (pc := 108) (ci := 12) (embc := rhe0I _ _) [rhR _, rhI _, rhI _] dX12_amount_108 ml_X12_431 mv_X12_sumOf ⟨_, rfl, rfl⟩ h1 (c_X12_sumOf _ _ _ _ _ _ _) (by decide) (by decide) rfl (Nat.le_of_ble_eq_true rfl) (fun r69 _ => ?_)
                                      exact rhF.zret (pc := 111) dX12_amount_111 rfl rfl rfl
                                    · skip
                                      have zh4 := rhne h4 (n := 102) (by decide)
                                      have zh5 := rhne h5 (n := 103) (by decide)
                                      have zh19 := rhne h19 (n := 104) (by decide)
                                      have zh23 := rhne h23 (n := 105) (by decide)
                                      have zh27 := rhne h27 (n := 106) (by decide)
                                      have zh31 := rhne h31 (n := 107) (by decide)
                                      have zh35 := rhne h35 (n := 108) (by decide)
                                      have zh37 := rhne h37 (n := 109) (by decide)
                                      have zh38 := rhne h38 (n := 110) (by decide)
                                      have zh41 := rhne h41 (n := 111) (by decide)
                                      have zh45 := rhne h45 (n := 112) (by decide)
                                      have zh49 := rhne h49 (n := 113) (by decide)
                                      have zh53 := rhne h53 (n := 114) (by decide)
                                      have zh55 := rhne h55 (n := 115) (by decide)
                                      have zh59 := rhne h59 (n := 116) (by decide)
                                      have zh60 := rhne h60 (n := 117) (by decide)
                                      have zh64 := rhne h64 (n := 118) (by decide)
                                      have zh68 := rhne h68 (n := 119) (by decide)
                                      refine rhF.tsOut (pc := 6) 135 dX12_amount_6 (by omega) (by decide) ?_
                                      refine rhF.aload_n (pc := 135) dX12_amount_135 0 rfl ?_
                                      refine rhF.get (pc := 136) (rhR _) dX12_amount_136 fl_X12_95 h1 rfl ?_
                                      refine rhF.iload_n (pc := 139) dX12_amount_139 2 rfl ?_
                                      refine rhF.ck (fun h70 => ?_)
                                      refine rhF.ck (fun h71 => ?_)
                                      refine rhF.iald (pc := 140) dX12_amount_140 h70 h71 ?_
                                      refine rhF.iload_n (pc := 141) dX12_amount_141 3 rfl ?_
                                      refine rhF.isub (pc := 142) dX12_amount_142 ?_
                                      refine rhF.istore (pc := 143) (L' := [(5, rhI _), (0, rhR _), (1, rhI _), (2, rhI _), (3, rhI _), (4, rhI _)]) dX12_amount_143 (by decide) rfl ?_
                                      refine rhF.sub [1, 2, 3, 0] rfl ?_
                                      exact (b_X12_amount_145 rhFU) _ _ _ _
theorem c_X12_amount (E : rhE) (Γ : rhG) (M : rhM) (v0 : Nat) (v1 : Int32) (v2 : Int32) (v3 : Int32) (v4 : Int32) : ∀ a, f_X12_amount Γ M v0 v1 v2 v3 v4 = some a → rhC E 6 yX12_amount cX12_amount 6 (some .int) [rhR v0, rhI v1, rhI v2, rhI v3, rhI v4] Γ M ((rhe0I Γ M) a) := rhF.met (by decide +kernel) (Nat.le_of_ble_eq_true rfl) (b_X12_amount v0 v1 v2 v3 v4)
def f_X12_isLetter (Γ : rhG) (M : rhM) (v0 : Int32) : Option (Int32) :=
  if v0 < 97 then
    (some 0)
  else
    if 122 < v0 then
      (some 0)
    else
      some 1
set_option maxHeartbeats 4000000 in
set_option maxRecDepth 100000 in
theorem b_X12_isLetter {E : rhE} {Γ : rhG} {M : rhM} : ∀ (v0 : Int32), rhF E 1 1 yX12_isLetter cX12_isLetter (some .boolean) Γ (rhe0I Γ M) (f_X12_isLetter Γ M v0) 0 [(0, rhI v0)] [] Γ M := by
  intro v0
  rw [f_X12_isLetter]
  refine rhF.iload_n (pc := 0) dX12_isLetter_0 0 rfl ?_
  refine rhF.bipush (pc := 1) (v := 97) dX12_isLetter_1 (by decide) ?_
  refine rhF.icmp_lt (pc := 3) 16 dX12_isLetter_3 (by decide) (fun h1 => ?_) (fun h1 => ?_)
  · refine rhF.iconst (pc := 16) (v := 0) dX12_isLetter_16 (by decide) ?_
    exact rhF.zret (pc := 17) dX12_isLetter_17 rfl rfl rfl
  · refine rhF.iload_n (pc := 6) dX12_isLetter_6 0 rfl ?_
    refine rhF.bipush (pc := 7) (v := 122) dX12_isLetter_7 (by decide) ?_
    refine rhF.icmp_gt (pc := 9) 16 dX12_isLetter_9 (by decide) (fun h2 => ?_) (fun h2 => ?_)
    · refine rhF.iconst (pc := 16) (v := 0) dX12_isLetter_16 (by decide) ?_
      exact rhF.zret (pc := 17) dX12_isLetter_17 rfl rfl rfl
    · refine rhF.iconst (pc := 12) (v := 1) dX12_isLetter_12 (by decide) ?_
      refine rhF.goto (pc := 13) 17 dX12_isLetter_13 (by decide) ?_
      exact rhF.zret (pc := 17) dX12_isLetter_17 rfl rfl rfl
theorem c_X12_isLetter (E : rhE) (Γ : rhG) (M : rhM) (v0 : Int32) : ∀ a, f_X12_isLetter Γ M v0 = some a → rhC E 1 yX12_isLetter cX12_isLetter 1 (some .boolean) [rhI v0] Γ M ((rhe0I Γ M) a) := rhF.met (by decide +kernel) (Nat.le_of_ble_eq_true rfl) (b_X12_isLetter v0)
def f_X12_two (Γ : rhG) (M : rhM) (v0 : Int32) (v1 : Int32) (v2 : Int32) : Option (Int32) :=
  if v0 = 38 then
    (if v1 = 0 then
      (some 0)
    else
      if v2 = 0 then
        (some 0)
      else
        some 1)
  else
  if v0 = 39 then
    (if v1 = 0 then
      (if v2 = 0 then
        (some 0)
      else
        some 1)
    else
      some 1)
  else
  if v0 = 40 then
    (if v1 = 0 then
      (if v2 = 0 then
        (some 0)
      else
        some 1)
    else
      some 1)
  else
  if v0 = 41 then
    (if v1 = 0 then
      (if v2 = 0 then
        (some 0)
      else
        some 1)
    else
      some 1)
  else
  if v0 = 42 then
    (some (v1 * v2))
  else
  if v0 = 43 then
    (some (v1 + v2))
  else
  if v0 = 44 then
    (if v1 = 0 then
      (if v2 = 0 then
        (some 0)
      else
        some 1)
    else
      some 1)
  else
  if v0 = 45 then
    (some (v1 - v2))
  else
  if v0 = 46 then
    (if v1 = 0 then
      (if v2 = 0 then
        (some 0)
      else
        some 1)
    else
      some 1)
  else
  if v0 = 47 then
    (if v2 = 0 then
      (some 0)
    else
      rhck (¬ v2 = 0) <|
      some (v1 / v2))
  else
  if v0 = 48 then
    (if v1 = 0 then
      (if v2 = 0 then
        (some 0)
      else
        some 1)
    else
      some 1)
  else
  if v0 = 49 then
    (if v1 = 0 then
      (if v2 = 0 then
        (some 0)
      else
        some 1)
    else
      some 1)
  else
  if v0 = 50 then
    (if v1 = 0 then
      (if v2 = 0 then
        (some 0)
      else
        some 1)
    else
      some 1)
  else
  if v0 = 51 then
    (if v1 = 0 then
      (if v2 = 0 then
        (some 0)
      else
        some 1)
    else
      some 1)
  else
  if v0 = 52 then
    (if v1 = 0 then
      (if v2 = 0 then
        (some 0)
      else
        some 1)
    else
      some 1)
  else
  if v0 = 53 then
    (if v1 = 0 then
      (if v2 = 0 then
        (some 0)
      else
        some 1)
    else
      some 1)
  else
  if v0 = 54 then
    (if v1 = 0 then
      (if v2 = 0 then
        (some 0)
      else
        some 1)
    else
      some 1)
  else
  if v0 = 55 then
    (if v1 = 0 then
      (if v2 = 0 then
        (some 0)
      else
        some 1)
    else
      some 1)
  else
  if v0 = 56 then
    (if v1 = 0 then
      (if v2 = 0 then
        (some 0)
      else
        some 1)
    else
      some 1)
  else
  if v0 = 57 then
    (if v1 = 0 then
      (if v2 = 0 then
        (some 0)
      else
        some 1)
    else
      some 1)
  else
  if v0 = 58 then
    (if v1 = 0 then
      (if v2 = 0 then
        (some 0)
      else
        some 1)
    else
      some 1)
  else
  if v0 = 59 then
    (if v1 = 0 then
      (if v2 = 0 then
        (some 0)
      else
        some 1)
    else
      some 1)
  else
  if v0 = 60 then
    (if v1 < v2 then
      (some 1)
    else
      some 0)
  else
  if v0 = 61 then
    (if v1 = v2 then
      (some 1)
    else
      some 0)
  else
  if v0 = 62 then
    (if v2 < v1 then
      (some 1)
    else
      some 0)
  else
  if v1 = 0 then
    (if v2 = 0 then
      (some 0)
    else
      some 1)
  else
    some 1
set_option maxHeartbeats 4000000 in
set_option maxRecDepth 100000 in
theorem b_X12_two {E : rhE} {Γ : rhG} {M : rhM} : ∀ (v0 : Int32) (v1 : Int32) (v2 : Int32), rhF E 1 3 yX12_two cX12_two (some .int) Γ (rhe0I Γ M) (f_X12_two Γ M v0 v1 v2) 0 [(0, rhI v0), (1, rhI v1), (2, rhI v2)] [] Γ M := by
  intro v0 v1 v2
  rw [f_X12_two]
  refine rhF.iload_n (pc := 0) dX12_two_0 0 rfl ?_
  refine rhF.ite (fun h1 => ?_) (fun h1 => ?_)
  · refine rhF.tsIn (pc := 1) 173 38 dX12_two_1 (by rw [h1]; decide) (by decide) rfl (by decide) ?_
    refine rhF.iload_n (pc := 173) dX12_two_173 1 rfl ?_
    refine rhF.if_eq (pc := 174) 185 dX12_two_174 (by decide) (fun h2 => ?_) (fun h2 => ?_)
    · refine rhF.iconst (pc := 185) (v := 0) dX12_two_185 (by decide) ?_
      exact rhF.zret (pc := 186) dX12_two_186 rfl rfl rfl
    · refine rhF.iload_n (pc := 177) dX12_two_177 2 rfl ?_
      refine rhF.if_eq (pc := 178) 185 dX12_two_178 (by decide) (fun h3 => ?_) (fun h3 => ?_)
      · refine rhF.iconst (pc := 185) (v := 0) dX12_two_185 (by decide) ?_
        exact rhF.zret (pc := 186) dX12_two_186 rfl rfl rfl
      · refine rhF.iconst (pc := 181) (v := 1) dX12_two_181 (by decide) ?_
        refine rhF.goto (pc := 182) 186 dX12_two_182 (by decide) ?_
        exact rhF.zret (pc := 186) dX12_two_186 rfl rfl rfl
  · skip
    refine rhF.ite (fun h4 => ?_) (fun h4 => ?_)
    · refine rhF.tsIn (pc := 1) 187 39 dX12_two_1 (by rw [h4]; decide) (by decide) rfl (by decide) ?_
      refine rhF.iload_n (pc := 187) dX12_two_187 1 rfl ?_
      refine rhF.if_ne (pc := 188) 195 dX12_two_188 (by decide) (fun h5 => ?_) (fun h5 => ?_)
      · refine rhF.iload_n (pc := 191) dX12_two_191 2 rfl ?_
        refine rhF.if_eq (pc := 192) 199 dX12_two_192 (by decide) (fun h6 => ?_) (fun h6 => ?_)
        · refine rhF.iconst (pc := 199) (v := 0) dX12_two_199 (by decide) ?_
          exact rhF.zret (pc := 200) dX12_two_200 rfl rfl rfl
        · refine rhF.iconst (pc := 195) (v := 1) dX12_two_195 (by decide) ?_
          refine rhF.goto (pc := 196) 200 dX12_two_196 (by decide) ?_
          exact rhF.zret (pc := 200) dX12_two_200 rfl rfl rfl
      · refine rhF.iconst (pc := 195) (v := 1) dX12_two_195 (by decide) ?_
        refine rhF.goto (pc := 196) 200 dX12_two_196 (by decide) ?_
        exact rhF.zret (pc := 200) dX12_two_200 rfl rfl rfl
    · skip
      refine rhF.ite (fun h7 => ?_) (fun h7 => ?_)
      · refine rhF.tsIn (pc := 1) 187 40 dX12_two_1 (by rw [h7]; decide) (by decide) rfl (by decide) ?_
        refine rhF.iload_n (pc := 187) dX12_two_187 1 rfl ?_
        refine rhF.if_ne (pc := 188) 195 dX12_two_188 (by decide) (fun h8 => ?_) (fun h8 => ?_)
        · refine rhF.iload_n (pc := 191) dX12_two_191 2 rfl ?_
          refine rhF.if_eq (pc := 192) 199 dX12_two_192 (by decide) (fun h9 => ?_) (fun h9 => ?_)
          · refine rhF.iconst (pc := 199) (v := 0) dX12_two_199 (by decide) ?_
            exact rhF.zret (pc := 200) dX12_two_200 rfl rfl rfl
          · refine rhF.iconst (pc := 195) (v := 1) dX12_two_195 (by decide) ?_
            refine rhF.goto (pc := 196) 200 dX12_two_196 (by decide) ?_
            exact rhF.zret (pc := 200) dX12_two_200 rfl rfl rfl
        · refine rhF.iconst (pc := 195) (v := 1) dX12_two_195 (by decide) ?_
          refine rhF.goto (pc := 196) 200 dX12_two_196 (by decide) ?_
          exact rhF.zret (pc := 200) dX12_two_200 rfl rfl rfl
      · skip
        refine rhF.ite (fun h10 => ?_) (fun h10 => ?_)
        · refine rhF.tsIn (pc := 1) 187 41 dX12_two_1 (by rw [h10]; decide) (by decide) rfl (by decide) ?_
          refine rhF.iload_n (pc := 187) dX12_two_187 1 rfl ?_
          refine rhF.if_ne (pc := 188) 195 dX12_two_188 (by decide) (fun h11 => ?_) (fun h11 => ?_)
          · refine rhF.iload_n (pc := 191) dX12_two_191 2 rfl ?_
            refine rhF.if_eq (pc := 192) 199 dX12_two_192 (by decide) (fun h12 => ?_) (fun h12 => ?_)
            · refine rhF.iconst (pc := 199) (v := 0) dX12_two_199 (by decide) ?_
              exact rhF.zret (pc := 200) dX12_two_200 rfl rfl rfl
            · refine rhF.iconst (pc := 195) (v := 1) dX12_two_195 (by decide) ?_
              refine rhF.goto (pc := 196) 200 dX12_two_196 (by decide) ?_
              exact rhF.zret (pc := 200) dX12_two_200 rfl rfl rfl
          · refine rhF.iconst (pc := 195) (v := 1) dX12_two_195 (by decide) ?_
            refine rhF.goto (pc := 196) 200 dX12_two_196 (by decide) ?_
            exact rhF.zret (pc := 200) dX12_two_200 rfl rfl rfl
        · skip
          refine rhF.ite (fun h13 => ?_) (fun h13 => ?_)
          · refine rhF.tsIn (pc := 1) 124 42 dX12_two_1 (by rw [h13]; decide) (by decide) rfl (by decide) ?_
            refine rhF.iload_n (pc := 124) dX12_two_124 1 rfl ?_
            refine rhF.iload_n (pc := 125) dX12_two_125 2 rfl ?_
            refine rhF.imul (pc := 126) dX12_two_126 ?_
            exact rhF.zret (pc := 127) dX12_two_127 rfl rfl rfl
          · skip
            refine rhF.ite (fun h14 => ?_) (fun h14 => ?_)
            · refine rhF.tsIn (pc := 1) 116 43 dX12_two_1 (by rw [h14]; decide) (by decide) rfl (by decide) ?_
              refine rhF.iload_n (pc := 116) dX12_two_116 1 rfl ?_
              refine rhF.iload_n (pc := 117) dX12_two_117 2 rfl ?_
              refine rhF.iadd (pc := 118) dX12_two_118 ?_
              exact rhF.zret (pc := 119) dX12_two_119 rfl rfl rfl
            · skip
              refine rhF.ite (fun h15 => ?_) (fun h15 => ?_)
              · refine rhF.tsIn (pc := 1) 187 44 dX12_two_1 (by rw [h15]; decide) (by decide) rfl (by decide) ?_
                refine rhF.iload_n (pc := 187) dX12_two_187 1 rfl ?_
                refine rhF.if_ne (pc := 188) 195 dX12_two_188 (by decide) (fun h16 => ?_) (fun h16 => ?_)
                · refine rhF.iload_n (pc := 191) dX12_two_191 2 rfl ?_
                  refine rhF.if_eq (pc := 192) 199 dX12_two_192 (by decide) (fun h17 => ?_) (fun h17 => ?_)
                  · refine rhF.iconst (pc := 199) (v := 0) dX12_two_199 (by decide) ?_
                    exact rhF.zret (pc := 200) dX12_two_200 rfl rfl rfl
                  · refine rhF.iconst (pc := 195) (v := 1) dX12_two_195 (by decide) ?_
                    refine rhF.goto (pc := 196) 200 dX12_two_196 (by decide) ?_
                    exact rhF.zret (pc := 200) dX12_two_200 rfl rfl rfl
                · refine rhF.iconst (pc := 195) (v := 1) dX12_two_195 (by decide) ?_
                  refine rhF.goto (pc := 196) 200 dX12_two_196 (by decide) ?_
                  exact rhF.zret (pc := 200) dX12_two_200 rfl rfl rfl
              · skip
                refine rhF.ite (fun h18 => ?_) (fun h18 => ?_)
                · refine rhF.tsIn (pc := 1) 120 45 dX12_two_1 (by rw [h18]; decide) (by decide) rfl (by decide) ?_
                  refine rhF.iload_n (pc := 120) dX12_two_120 1 rfl ?_
                  refine rhF.iload_n (pc := 121) dX12_two_121 2 rfl ?_
                  refine rhF.isub (pc := 122) dX12_two_122 ?_
                  exact rhF.zret (pc := 123) dX12_two_123 rfl rfl rfl
                · skip
                  refine rhF.ite (fun h19 => ?_) (fun h19 => ?_)
                  · refine rhF.tsIn (pc := 1) 187 46 dX12_two_1 (by rw [h19]; decide) (by decide) rfl (by decide) ?_
                    refine rhF.iload_n (pc := 187) dX12_two_187 1 rfl ?_
                    refine rhF.if_ne (pc := 188) 195 dX12_two_188 (by decide) (fun h20 => ?_) (fun h20 => ?_)
                    · refine rhF.iload_n (pc := 191) dX12_two_191 2 rfl ?_
                      refine rhF.if_eq (pc := 192) 199 dX12_two_192 (by decide) (fun h21 => ?_) (fun h21 => ?_)
                      · refine rhF.iconst (pc := 199) (v := 0) dX12_two_199 (by decide) ?_
                        exact rhF.zret (pc := 200) dX12_two_200 rfl rfl rfl
                      · refine rhF.iconst (pc := 195) (v := 1) dX12_two_195 (by decide) ?_
                        refine rhF.goto (pc := 196) 200 dX12_two_196 (by decide) ?_
                        exact rhF.zret (pc := 200) dX12_two_200 rfl rfl rfl
                    · refine rhF.iconst (pc := 195) (v := 1) dX12_two_195 (by decide) ?_
                      refine rhF.goto (pc := 196) 200 dX12_two_196 (by decide) ?_
                      exact rhF.zret (pc := 200) dX12_two_200 rfl rfl rfl
                  · skip
                    refine rhF.ite (fun h22 => ?_) (fun h22 => ?_)
                    · refine rhF.tsIn (pc := 1) 128 47 dX12_two_1 (by rw [h22]; decide) (by decide) rfl (by decide) ?_
                      refine rhF.iload_n (pc := 128) dX12_two_128 2 rfl ?_
                      refine rhF.if_ne (pc := 129) 136 dX12_two_129 (by decide) (fun h23 => ?_) (fun h23 => ?_)
                      · refine rhF.iconst (pc := 132) (v := 0) dX12_two_132 (by decide) ?_
                        refine rhF.goto (pc := 133) 139 dX12_two_133 (by decide) ?_
                        exact rhF.zret (pc := 139) dX12_two_139 rfl rfl rfl
                      · refine rhF.iload_n (pc := 136) dX12_two_136 1 rfl ?_
                        refine rhF.iload_n (pc := 137) dX12_two_137 2 rfl ?_
                        refine rhF.ck (fun h24 => ?_)
                        refine rhF.idivc (pc := 138) dX12_two_138 h24 ?_
                        exact rhF.zret (pc := 139) dX12_two_139 rfl rfl rfl
                    · skip
                      refine rhF.ite (fun h25 => ?_) (fun h25 => ?_)
                      · refine rhF.tsIn (pc := 1) 187 48 dX12_two_1 (by rw [h25]; decide) (by decide) rfl (by decide) ?_
                        refine rhF.iload_n (pc := 187) dX12_two_187 1 rfl ?_
                        refine rhF.if_ne (pc := 188) 195 dX12_two_188 (by decide) (fun h26 => ?_) (fun h26 => ?_)
                        · refine rhF.iload_n (pc := 191) dX12_two_191 2 rfl ?_
                          refine rhF.if_eq (pc := 192) 199 dX12_two_192 (by decide) (fun h27 => ?_) (fun h27 => ?_)
                          · refine rhF.iconst (pc := 199) (v := 0) dX12_two_199 (by decide) ?_
                            exact rhF.zret (pc := 200) dX12_two_200 rfl rfl rfl
                          · refine rhF.iconst (pc := 195) (v := 1) dX12_two_195 (by decide) ?_
                            refine rhF.goto (pc := 196) 200 dX12_two_196 (by decide) ?_
                            exact rhF.zret (pc := 200) dX12_two_200 rfl rfl rfl
                        · refine rhF.iconst (pc := 195) (v := 1) dX12_two_195 (by decide) ?_
                          refine rhF.goto (pc := 196) 200 dX12_two_196 (by decide) ?_
                          exact rhF.zret (pc := 200) dX12_two_200 rfl rfl rfl
                      · skip
                        refine rhF.ite (fun h28 => ?_) (fun h28 => ?_)
                        · refine rhF.tsIn (pc := 1) 187 49 dX12_two_1 (by rw [h28]; decide) (by decide) rfl (by decide) ?_
                          refine rhF.iload_n (pc := 187) dX12_two_187 1 rfl ?_
                          refine rhF.if_ne (pc := 188) 195 dX12_two_188 (by decide) (fun h29 => ?_) (fun h29 => ?_)
                          · refine rhF.iload_n (pc := 191) dX12_two_191 2 rfl ?_
                            refine rhF.if_eq (pc := 192) 199 dX12_two_192 (by decide) (fun h30 => ?_) (fun h30 => ?_)
                            · refine rhF.iconst (pc := 199) (v := 0) dX12_two_199 (by decide) ?_
                              exact rhF.zret (pc := 200) dX12_two_200 rfl rfl rfl
                            · refine rhF.iconst (pc := 195) (v := 1) dX12_two_195 (by decide) ?_
                              refine rhF.goto (pc := 196) 200 dX12_two_196 (by decide) ?_
                              exact rhF.zret (pc := 200) dX12_two_200 rfl rfl rfl
                          · refine rhF.iconst (pc := 195) (v := 1) dX12_two_195 (by decide) ?_
                            refine rhF.goto (pc := 196) 200 dX12_two_196 (by decide) ?_
                            exact rhF.zret (pc := 200) dX12_two_200 rfl rfl rfl
                        · skip
                          refine rhF.ite (fun h31 => ?_) (fun h31 => ?_)
                          · refine rhF.tsIn (pc := 1) 187 50 dX12_two_1 (by rw [h31]; decide) (by decide) rfl (by decide) ?_
                            refine rhF.iload_n (pc := 187) dX12_two_187 1 rfl ?_
                            refine rhF.if_ne (pc := 188) 195 dX12_two_188 (by decide) (fun h32 => ?_) (fun h32 => ?_)
                            · refine rhF.iload_n (pc := 191) dX12_two_191 2 rfl ?_
                              refine rhF.if_eq (pc := 192) 199 dX12_two_192 (by decide) (fun h33 => ?_) (fun h33 => ?_)
                              · refine rhF.iconst (pc := 199) (v := 0) dX12_two_199 (by decide) ?_
                                exact rhF.zret (pc := 200) dX12_two_200 rfl rfl rfl
                              · refine rhF.iconst (pc := 195) (v := 1) dX12_two_195 (by decide) ?_
                                refine rhF.goto (pc := 196) 200 dX12_two_196 (by decide) ?_
                                exact rhF.zret (pc := 200) dX12_two_200 rfl rfl rfl
                            · refine rhF.iconst (pc := 195) (v := 1) dX12_two_195 (by decide) ?_
                              refine rhF.goto (pc := 196) 200 dX12_two_196 (by decide) ?_
                              exact rhF.zret (pc := 200) dX12_two_200 rfl rfl rfl
                          · skip
                            refine rhF.ite (fun h34 => ?_) (fun h34 => ?_)
                            · refine rhF.tsIn (pc := 1) 187 51 dX12_two_1 (by rw [h34]; decide) (by decide) rfl (by decide) ?_
                              refine rhF.iload_n (pc := 187) dX12_two_187 1 rfl ?_
                              refine rhF.if_ne (pc := 188) 195 dX12_two_188 (by decide) (fun h35 => ?_) (fun h35 => ?_)
                              · refine rhF.iload_n (pc := 191) dX12_two_191 2 rfl ?_
                                refine rhF.if_eq (pc := 192) 199 dX12_two_192 (by decide) (fun h36 => ?_) (fun h36 => ?_)
                                · refine rhF.iconst (pc := 199) (v := 0) dX12_two_199 (by decide) ?_
                                  exact rhF.zret (pc := 200) dX12_two_200 rfl rfl rfl
                                · refine rhF.iconst (pc := 195) (v := 1) dX12_two_195 (by decide) ?_
                                  refine rhF.goto (pc := 196) 200 dX12_two_196 (by decide) ?_
                                  exact rhF.zret (pc := 200) dX12_two_200 rfl rfl rfl
                              · refine rhF.iconst (pc := 195) (v := 1) dX12_two_195 (by decide) ?_
                                refine rhF.goto (pc := 196) 200 dX12_two_196 (by decide) ?_
                                exact rhF.zret (pc := 200) dX12_two_200 rfl rfl rfl
                            · skip
                              refine rhF.ite (fun h37 => ?_) (fun h37 => ?_)
                              · refine rhF.tsIn (pc := 1) 187 52 dX12_two_1 (by rw [h37]; decide) (by decide) rfl (by decide) ?_
                                refine rhF.iload_n (pc := 187) dX12_two_187 1 rfl ?_
                                refine rhF.if_ne (pc := 188) 195 dX12_two_188 (by decide) (fun h38 => ?_) (fun h38 => ?_)
                                · refine rhF.iload_n (pc := 191) dX12_two_191 2 rfl ?_
                                  refine rhF.if_eq (pc := 192) 199 dX12_two_192 (by decide) (fun h39 => ?_) (fun h39 => ?_)
                                  · refine rhF.iconst (pc := 199) (v := 0) dX12_two_199 (by decide) ?_
                                    exact rhF.zret (pc := 200) dX12_two_200 rfl rfl rfl
                                  · refine rhF.iconst (pc := 195) (v := 1) dX12_two_195 (by decide) ?_
                                    refine rhF.goto (pc := 196) 200 dX12_two_196 (by decide) ?_
                                    exact rhF.zret (pc := 200) dX12_two_200 rfl rfl rfl
                                · refine rhF.iconst (pc := 195) (v := 1) dX12_two_195 (by decide) ?_
                                  refine rhF.goto (pc := 196) 200 dX12_two_196 (by decide) ?_
                                  exact rhF.zret (pc := 200) dX12_two_200 rfl rfl rfl
                              · skip
                                refine rhF.ite (fun h40 => ?_) (fun h40 => ?_)
                                · refine rhF.tsIn (pc := 1) 187 53 dX12_two_1 (by rw [h40]; decide) (by decide) rfl (by decide) ?_
                                  refine rhF.iload_n (pc := 187) dX12_two_187 1 rfl ?_
                                  refine rhF.if_ne (pc := 188) 195 dX12_two_188 (by decide) (fun h41 => ?_) (fun h41 => ?_)
                                  · refine rhF.iload_n (pc := 191) dX12_two_191 2 rfl ?_
                                    refine rhF.if_eq (pc := 192) 199 dX12_two_192 (by decide) (fun h42 => ?_) (fun h42 => ?_)
                                    · refine rhF.iconst (pc := 199) (v := 0) dX12_two_199 (by decide) ?_
                                      exact rhF.zret (pc := 200) dX12_two_200 rfl rfl rfl
                                    · refine rhF.iconst (pc := 195) (v := 1) dX12_two_195 (by decide) ?_
                                      refine rhF.goto (pc := 196) 200 dX12_two_196 (by decide) ?_
                                      exact rhF.zret (pc := 200) dX12_two_200 rfl rfl rfl
                                  · refine rhF.iconst (pc := 195) (v := 1) dX12_two_195 (by decide) ?_
                                    refine rhF.goto (pc := 196) 200 dX12_two_196 (by decide) ?_
                                    exact rhF.zret (pc := 200) dX12_two_200 rfl rfl rfl
                                · skip
                                  refine rhF.ite (fun h43 => ?_) (fun h43 => ?_)
                                  · refine rhF.tsIn (pc := 1) 187 54 dX12_two_1 (by rw [h43]; decide) (by decide) rfl (by decide) ?_
                                    refine rhF.iload_n (pc := 187) dX12_two_187 1 rfl ?_
                                    refine rhF.if_ne (pc := 188) 195 dX12_two_188 (by decide) (fun h44 => ?_) (fun h44 => ?_)
                                    · refine rhF.iload_n (pc := 191) dX12_two_191 2 rfl ?_
                                      refine rhF.if_eq (pc := 192) 199 dX12_two_192 (by decide) (fun h45 => ?_) (fun h45 => ?_)
                                      · refine rhF.iconst (pc := 199) (v := 0) dX12_two_199 (by decide) ?_
                                        exact rhF.zret (pc := 200) dX12_two_200 rfl rfl rfl
                                      · refine rhF.iconst (pc := 195) (v := 1) dX12_two_195 (by decide) ?_
                                        refine rhF.goto (pc := 196) 200 dX12_two_196 (by decide) ?_
                                        exact rhF.zret (pc := 200) dX12_two_200 rfl rfl rfl
                                    · refine rhF.iconst (pc := 195) (v := 1) dX12_two_195 (by decide) ?_
                                      refine rhF.goto (pc := 196) 200 dX12_two_196 (by decide) ?_
                                      exact rhF.zret (pc := 200) dX12_two_200 rfl rfl rfl
                                  · skip
                                    refine rhF.ite (fun h46 => ?_) (fun h46 => ?_)
                                    · refine rhF.tsIn (pc := 1) 187 55 dX12_two_1 (by rw [h46]; decide) (by decide) rfl (by decide) ?_
                                      refine rhF.iload_n (pc := 187) dX12_two_187 1 rfl ?_
                                      refine rhF.if_ne (pc := 188) 195 dX12_two_188 (by decide) (fun h47 => ?_) (fun h47 => ?_)
                                      · refine rhF.iload_n (pc := 191) dX12_two_191 2 rfl ?_
                                        refine rhF.if_eq (pc := 192) 199 dX12_two_192 (by decide) (fun h48 => ?_) (fun h48 => ?_)
                                        · refine rhF.iconst (pc := 199) (v := 0) dX12_two_199 (by decide) ?_
                                          exact rhF.zret (pc := 200) dX12_two_200 rfl rfl rfl
                                        · refine rhF.iconst (pc := 195) (v := 1) dX12_two_195 (by decide) ?_
                                          refine rhF.goto (pc := 196) 200 dX12_two_196 (by decide) ?_
                                          exact rhF.zret (pc := 200) dX12_two_200 rfl rfl rfl
                                      · refine rhF.iconst (pc := 195) (v := 1) dX12_two_195 (by decide) ?_
                                        refine rhF.goto (pc := 196) 200 dX12_two_196 (by decide) ?_
                                        exact rhF.zret (pc := 200) dX12_two_200 rfl rfl rfl
                                    · skip
                                      refine rhF.ite (fun h49 => ?_) (fun h49 => ?_)
                                      · refine rhF.tsIn (pc := 1) 187 56 dX12_two_1 (by rw [h49]; decide) (by decide) rfl (by decide) ?_
                                        refine rhF.iload_n (pc := 187) dX12_two_187 1 rfl ?_
                                        refine rhF.if_ne (pc := 188) 195 dX12_two_188 (by decide) (fun h50 => ?_) (fun h50 => ?_)
                                        · refine rhF.iload_n (pc := 191) dX12_two_191 2 rfl ?_
                                          refine rhF.if_eq (pc := 192) 199 dX12_two_192 (by decide) (fun h51 => ?_) (fun h51 => ?_)
                                          · refine rhF.iconst (pc := 199) (v := 0) dX12_two_199 (by decide) ?_
                                            exact rhF.zret (pc := 200) dX12_two_200 rfl rfl rfl
                                          · refine rhF.iconst (pc := 195) (v := 1) dX12_two_195 (by decide) ?_
                                            refine rhF.goto (pc := 196) 200 dX12_two_196 (by decide) ?_
                                            exact rhF.zret (pc := 200) dX12_two_200 rfl rfl rfl
                                        · refine rhF.iconst (pc := 195) (v := 1) dX12_two_195 (by decide) ?_
                                          refine rhF.goto (pc := 196) 200 dX12_two_196 (by decide) ?_
                                          exact rhF.zret (pc := 200) dX12_two_200 rfl rfl rfl
                                      · skip
                                        refine rhF.ite (fun h52 => ?_) (fun h52 => ?_)
                                        · refine rhF.tsIn (pc := 1) 187 57 dX12_two_1 (by rw [h52]; decide) (by decide) rfl (by decide) ?_
                                          refine rhF.iload_n (pc := 187) dX12_two_187 1 rfl ?_
                                          refine rhF.if_ne (pc := 188) 195 dX12_two_188 (by decide) (fun h53 => ?_) (fun h53 => ?_)
                                          · refine rhF.iload_n (pc := 191) dX12_two_191 2 rfl ?_
                                            refine rhF.if_eq (pc := 192) 199 dX12_two_192 (by decide) (fun h54 => ?_) (fun h54 => ?_)
                                            · refine rhF.iconst (pc := 199) (v := 0) dX12_two_199 (by decide) ?_
                                              exact rhF.zret (pc := 200) dX12_two_200 rfl rfl rfl
                                            · refine rhF.iconst (pc := 195) (v := 1) dX12_two_195 (by decide) ?_
                                              refine rhF.goto (pc := 196) 200 dX12_two_196 (by decide) ?_
                                              exact rhF.zret (pc := 200) dX12_two_200 rfl rfl rfl
                                          · refine rhF.iconst (pc := 195) (v := 1) dX12_two_195 (by decide) ?_
                                            refine rhF.goto (pc := 196) 200 dX12_two_196 (by decide) ?_
                                            exact rhF.zret (pc := 200) dX12_two_200 rfl rfl rfl
                                        · skip
                                          refine rhF.ite (fun h55 => ?_) (fun h55 => ?_)
                                          · refine rhF.tsIn (pc := 1) 187 58 dX12_two_1 (by rw [h55]; decide) (by decide) rfl (by decide) ?_
                                            refine rhF.iload_n (pc := 187) dX12_two_187 1 rfl ?_
                                            refine rhF.if_ne (pc := 188) 195 dX12_two_188 (by decide) (fun h56 => ?_) (fun h56 => ?_)
                                            · refine rhF.iload_n (pc := 191) dX12_two_191 2 rfl ?_
                                              refine rhF.if_eq (pc := 192) 199 dX12_two_192 (by decide) (fun h57 => ?_) (fun h57 => ?_)
                                              · refine rhF.iconst (pc := 199) (v := 0) dX12_two_199 (by decide) ?_
                                                exact rhF.zret (pc := 200) dX12_two_200 rfl rfl rfl
                                              · refine rhF.iconst (pc := 195) (v := 1) dX12_two_195 (by decide) ?_
                                                refine rhF.goto (pc := 196) 200 dX12_two_196 (by decide) ?_
                                                exact rhF.zret (pc := 200) dX12_two_200 rfl rfl rfl
                                            · refine rhF.iconst (pc := 195) (v := 1) dX12_two_195 (by decide) ?_
                                              refine rhF.goto (pc := 196) 200 dX12_two_196 (by decide) ?_
                                              exact rhF.zret (pc := 200) dX12_two_200 rfl rfl rfl
                                          · skip
                                            refine rhF.ite (fun h58 => ?_) (fun h58 => ?_)
                                            · refine rhF.tsIn (pc := 1) 187 59 dX12_two_1 (by rw [h58]; decide) (by decide) rfl (by decide) ?_
                                              refine rhF.iload_n (pc := 187) dX12_two_187 1 rfl ?_
                                              refine rhF.if_ne (pc := 188) 195 dX12_two_188 (by decide) (fun h59 => ?_) (fun h59 => ?_)
                                              · refine rhF.iload_n (pc := 191) dX12_two_191 2 rfl ?_
                                                refine rhF.if_eq (pc := 192) 199 dX12_two_192 (by decide) (fun h60 => ?_) (fun h60 => ?_)
                                                · refine rhF.iconst (pc := 199) (v := 0) dX12_two_199 (by decide) ?_
                                                  exact rhF.zret (pc := 200) dX12_two_200 rfl rfl rfl
                                                · refine rhF.iconst (pc := 195) (v := 1) dX12_two_195 (by decide) ?_
                                                  refine rhF.goto (pc := 196) 200 dX12_two_196 (by decide) ?_
                                                  exact rhF.zret (pc := 200) dX12_two_200 rfl rfl rfl
                                              · refine rhF.iconst (pc := 195) (v := 1) dX12_two_195 (by decide) ?_
                                                refine rhF.goto (pc := 196) 200 dX12_two_196 (by decide) ?_
                                                exact rhF.zret (pc := 200) dX12_two_200 rfl rfl rfl
                                            · skip
                                              refine rhF.ite (fun h61 => ?_) (fun h61 => ?_)
                                              · refine rhF.tsIn (pc := 1) 140 60 dX12_two_1 (by rw [h61]; decide) (by decide) rfl (by decide) ?_
                                                refine rhF.iload_n (pc := 140) dX12_two_140 1 rfl ?_
                                                refine rhF.iload_n (pc := 141) dX12_two_141 2 rfl ?_
                                                refine rhF.icmp_ge (pc := 142) 149 dX12_two_142 (by decide) (fun h62 => ?_) (fun h62 => ?_)
                                                · refine rhF.iconst (pc := 145) (v := 1) dX12_two_145 (by decide) ?_
                                                  refine rhF.goto (pc := 146) 150 dX12_two_146 (by decide) ?_
                                                  exact rhF.zret (pc := 150) dX12_two_150 rfl rfl rfl
                                                · refine rhF.iconst (pc := 149) (v := 0) dX12_two_149 (by decide) ?_
                                                  exact rhF.zret (pc := 150) dX12_two_150 rfl rfl rfl
                                              · skip
                                                refine rhF.ite (fun h63 => ?_) (fun h63 => ?_)
                                                · refine rhF.tsIn (pc := 1) 162 61 dX12_two_1 (by rw [h63]; decide) (by decide) rfl (by decide) ?_
                                                  refine rhF.iload_n (pc := 162) dX12_two_162 1 rfl ?_
                                                  refine rhF.iload_n (pc := 163) dX12_two_163 2 rfl ?_
                                                  refine rhF.icmp_ne (pc := 164) 171 dX12_two_164 (by decide) (fun h64 => ?_) (fun h64 => ?_)
                                                  · refine rhF.iconst (pc := 167) (v := 1) dX12_two_167 (by decide) ?_
                                                    refine rhF.goto (pc := 168) 172 dX12_two_168 (by decide) ?_
                                                    exact rhF.zret (pc := 172) dX12_two_172 rfl rfl rfl
                                                  · refine rhF.iconst (pc := 171) (v := 0) dX12_two_171 (by decide) ?_
                                                    exact rhF.zret (pc := 172) dX12_two_172 rfl rfl rfl
                                                · skip
                                                  refine rhF.ite (fun h65 => ?_) (fun h65 => ?_)
                                                  · refine rhF.tsIn (pc := 1) 151 62 dX12_two_1 (by rw [h65]; decide) (by decide) rfl (by decide) ?_
                                                    refine rhF.iload_n (pc := 151) dX12_two_151 1 rfl ?_
                                                    refine rhF.iload_n (pc := 152) dX12_two_152 2 rfl ?_
                                                    refine rhF.icmp_le (pc := 153) 160 dX12_two_153 (by decide) (fun h66 => ?_) (fun h66 => ?_)
                                                    · refine rhF.iconst (pc := 156) (v := 1) dX12_two_156 (by decide) ?_
                                                      refine rhF.goto (pc := 157) 161 dX12_two_157 (by decide) ?_
                                                      exact rhF.zret (pc := 161) dX12_two_161 rfl rfl rfl
                                                    · refine rhF.iconst (pc := 160) (v := 0) dX12_two_160 (by decide) ?_
                                                      exact rhF.zret (pc := 161) dX12_two_161 rfl rfl rfl
                                                  · skip
                                                    have zh1 := rhne h1 (n := 38) (by decide)
                                                    have zh4 := rhne h4 (n := 39) (by decide)
                                                    have zh7 := rhne h7 (n := 40) (by decide)
                                                    have zh10 := rhne h10 (n := 41) (by decide)
                                                    have zh13 := rhne h13 (n := 42) (by decide)
                                                    have zh14 := rhne h14 (n := 43) (by decide)
                                                    have zh15 := rhne h15 (n := 44) (by decide)
                                                    have zh18 := rhne h18 (n := 45) (by decide)
                                                    have zh19 := rhne h19 (n := 46) (by decide)
                                                    have zh22 := rhne h22 (n := 47) (by decide)
                                                    have zh25 := rhne h25 (n := 48) (by decide)
                                                    have zh28 := rhne h28 (n := 49) (by decide)
                                                    have zh31 := rhne h31 (n := 50) (by decide)
                                                    have zh34 := rhne h34 (n := 51) (by decide)
                                                    have zh37 := rhne h37 (n := 52) (by decide)
                                                    have zh40 := rhne h40 (n := 53) (by decide)
                                                    have zh43 := rhne h43 (n := 54) (by decide)
                                                    have zh46 := rhne h46 (n := 55) (by decide)
                                                    have zh49 := rhne h49 (n := 56) (by decide)
                                                    have zh52 := rhne h52 (n := 57) (by decide)
                                                    have zh55 := rhne h55 (n := 58) (by decide)
                                                    have zh58 := rhne h58 (n := 59) (by decide)
                                                    have zh61 := rhne h61 (n := 60) (by decide)
                                                    have zh63 := rhne h63 (n := 61) (by decide)
                                                    have zh65 := rhne h65 (n := 62) (by decide)
                                                    refine rhF.tsOut (pc := 1) 187 dX12_two_1 (by omega) (by decide) ?_
                                                    refine rhF.iload_n (pc := 187) dX12_two_187 1 rfl ?_
                                                    refine rhF.if_ne (pc := 188) 195 dX12_two_188 (by decide) (fun h67 => ?_) (fun h67 => ?_)
                                                    · refine rhF.iload_n (pc := 191) dX12_two_191 2 rfl ?_
                                                      refine rhF.if_eq (pc := 192) 199 dX12_two_192 (by decide) (fun h68 => ?_) (fun h68 => ?_)
                                                      · refine rhF.iconst (pc := 199) (v := 0) dX12_two_199 (by decide) ?_
                                                        exact rhF.zret (pc := 200) dX12_two_200 rfl rfl rfl
                                                      · refine rhF.iconst (pc := 195) (v := 1) dX12_two_195 (by decide) ?_
                                                        refine rhF.goto (pc := 196) 200 dX12_two_196 (by decide) ?_
                                                        exact rhF.zret (pc := 200) dX12_two_200 rfl rfl rfl
                                                    · refine rhF.iconst (pc := 195) (v := 1) dX12_two_195 (by decide) ?_
                                                      refine rhF.goto (pc := 196) 200 dX12_two_196 (by decide) ?_
                                                      exact rhF.zret (pc := 200) dX12_two_200 rfl rfl rfl
theorem c_X12_two (E : rhE) (Γ : rhG) (M : rhM) (v0 : Int32) (v1 : Int32) (v2 : Int32) : ∀ a, f_X12_two Γ M v0 v1 v2 = some a → rhC E 1 yX12_two cX12_two 3 (some .int) [rhI v0, rhI v1, rhI v2] Γ M ((rhe0I Γ M) a) := rhF.met (by decide +kernel) (Nat.le_of_ble_eq_true rfl) (b_X12_two v0 v1 v2)
def f_X12_comes_82 (k149 : rhM → Nat → Int32 → Int32 → Int32 → Int32 → Int32 → Option (Int32 × rhM)) (Γ : rhG) (M : rhM) (v0 : Nat) (v1 : Int32) (v2 : Int32) (v3 : Int32) (v4 : Int32) (v5 : Int32) (s0 : Nat) (s1 : Int32) (s2 : Int32) : Option (Int32 × rhM) :=
  rhck (Γ.2.2.1 s0 = 15) <|
  rhck (0 ≤ (s1).toInt ∧ (s1).toInt < (Γ.2.2.2 s0 : Nat)) <|
  let M19 := rhsi M s0 (s1 : Int32).toNatClampNeg s2
  k149 M19 v0 v1 v2 v3 v4 v5
def f_X12_comes_149 (k27 : rhM → Nat → Int32 → Int32 → Int32 → Int32 → Int32 → Option (Int32 × rhM)) (Γ : rhG) (M : rhM) (v0 : Nat) (v1 : Int32) (v2 : Int32) (v3 : Int32) (v4 : Int32) (v5 : Int32) : Option (Int32 × rhM) :=
  let x20 : Int32 := v5 + 1
  k27 M v0 v1 v2 v3 v4 x20
def f_X12_comes_27 (Γ : rhG) : Nat → rhM → Nat → Int32 → Int32 → Int32 → Int32 → Int32 → Option (Int32 × rhM)
  | 0, _, _, _, _, _, _, _ => none
  | n + 1, M, v0, v1, v2, v3, v4, v5 =>
    rhck (Γ.2.2.1 v0 = 13) <|
    rhck (Γ.2.2.1 (M.2.2 v0 17) = 15) <|
    rhck (0 ≤ (M.1 v0 34).toInt ∧ (M.1 v0 34).toInt < (Γ.2.2.2 (M.2.2 v0 17) : Nat)) <|
    if v5 < (M.1 (M.2.2 v0 17) (M.1 v0 34).toNatClampNeg) then
      (rhck (Γ.2.2.1 (M.2.2 v0 29) = 15) <|
      rhck (0 ≤ (v5).toInt ∧ (v5).toInt < (Γ.2.2.2 (M.2.2 v0 29) : Nat)) <|
      let x12 := M.1 (M.2.2 v0 29) v5.toNatClampNeg
      if x12 = 126 then
        (rhck (Γ.2.2.1 (M.2.2 v0 33) = 15) <|
        rhck (0 ≤ (v4 - 1).toInt ∧ (v4 - 1).toInt < (Γ.2.2.2 (M.2.2 v0 33) : Nat)) <|
        if (M.1 (M.2.2 v0 33) (v4 - 1).toNatClampNeg) = 0 then
          (f_X12_comes_82 (f_X12_comes_149 (f_X12_comes_27 Γ n) Γ) Γ M v0 v1 v2 v3 v4 v5 (M.2.2 v0 33) (v4 - 1) 1)
        else
          f_X12_comes_82 (f_X12_comes_149 (f_X12_comes_27 Γ n) Γ) Γ M v0 v1 v2 v3 v4 v5 (M.2.2 v0 33) (v4 - 1) 0)
      else
        (f_X12_isLetter Γ M x12).bind fun r21 =>
        if r21 = 0 then
          (let x23 : Int32 := v4 + (-1)
          rhck (Γ.2.2.1 (M.2.2 v0 33) = 15) <|
          rhck (0 ≤ (x23 - 1).toInt ∧ (x23 - 1).toInt < (Γ.2.2.2 (M.2.2 v0 33) : Nat)) <|
          rhck (0 ≤ (x23).toInt ∧ (x23).toInt < (Γ.2.2.2 (M.2.2 v0 33) : Nat)) <|
          (f_X12_two Γ M x12 (M.1 (M.2.2 v0 33) (x23 - 1).toNatClampNeg) (M.1 (M.2.2 v0 33) x23.toNatClampNeg)).bind fun r27 =>
          let M28 := rhsi M (M.2.2 v0 33) (x23 - 1 : Int32).toNatClampNeg r27
          f_X12_comes_149 (f_X12_comes_27 Γ n) Γ M28 v0 v1 v2 v3 x23 v5)
        else
          (f_X12_amount Γ M v0 v5 v1 v2 v3).bind fun r29 =>
          rhck (Γ.2.2.1 (M.2.2 v0 33) = 15) <|
          rhck (0 ≤ (v4).toInt ∧ (v4).toInt < (Γ.2.2.2 (M.2.2 v0 33) : Nat)) <|
          let M32 := rhsi M (M.2.2 v0 33) (v4 : Int32).toNatClampNeg r29
          let x33 : Int32 := v4 + 1
          f_X12_comes_149 (f_X12_comes_27 Γ n) Γ M32 v0 v1 v2 v3 x33 v5)
    else
      rhck (Γ.2.2.1 (M.2.2 v0 33) = 15) <|
      rhck (0 ≤ (0 : Int32).toInt ∧ (0 : Int32).toInt < (Γ.2.2.2 (M.2.2 v0 33) : Nat)) <|
      some ((M.1 (M.2.2 v0 33) (0 : Int32).toNatClampNeg, M))
def f_X12_comes (Γ : rhG) (M : rhM) (v0 : Nat) (v1 : Int32) (v2 : Int32) (v3 : Int32) : Option (Int32 × rhM) :=
  rhck (Γ.2.2.1 v0 = 13) <|
  rhck (Γ.2.2.1 (M.2.2 v0 25) = 17) <|
  rhck (0 ≤ (M.1 v0 34).toInt ∧ (M.1 v0 34).toInt < (Γ.2.2.2 (M.2.2 v0 25) : Nat)) <|
  if (M.1 (M.2.2 v0 25) (M.1 v0 34).toNatClampNeg) = 0 then
    (some ((1, M)))
  else
    let x5 := 500 * (M.1 v0 34)
    f_X12_comes_27 Γ rhFU M v0 v1 v2 v3 0 x5
set_option maxHeartbeats 4000000 in
set_option maxRecDepth 100000 in
theorem b_X12_comes_82 {E : rhE} {Γ : rhG} {k149 : rhM → Nat → Int32 → Int32 → Int32 → Int32 → Int32 → Option (Int32 × rhM)} (hk149 : ∀ (M : rhM) (v0 : Nat) (v1 : Int32) (v2 : Int32) (v3 : Int32) (v4 : Int32) (v5 : Int32), rhF E 7 7 yX12_comes cX12_comes (some .int) Γ (rhe1I Γ) (k149 M v0 v1 v2 v3 v4 v5) 149 [(0, rhR v0), (1, rhI v1), (2, rhI v2), (3, rhI v3), (4, rhI v4), (5, rhI v5)] [] Γ M) : ∀ (M : rhM) (v0 : Nat) (v1 : Int32) (v2 : Int32) (v3 : Int32) (v4 : Int32) (v5 : Int32) (s0 : Nat) (s1 : Int32) (s2 : Int32), rhF E 7 7 yX12_comes cX12_comes (some .int) Γ (rhe1I Γ) (f_X12_comes_82 k149 Γ M v0 v1 v2 v3 v4 v5 s0 s1 s2) 82 [(0, rhR v0), (1, rhI v1), (2, rhI v2), (3, rhI v3), (4, rhI v4), (5, rhI v5)] [rhI s2, rhI s1, rhR s0] Γ M := by
  intro M v0 v1 v2 v3 v4 v5 s0 s1 s2
  rw [f_X12_comes_82]
  refine rhF.ck (fun h17 => ?_)
  refine rhF.ck (fun h18 => ?_)
  refine rhF.iast (pc := 82) dX12_comes_82 h17 h18 ?_
  refine rhF.goto (pc := 83) 149 dX12_comes_83 (by decide) ?_
  exact hk149 _ _ _ _ _ _ _
set_option maxHeartbeats 4000000 in
set_option maxRecDepth 100000 in
theorem b_X12_comes_149 {E : rhE} {Γ : rhG} {k27 : rhM → Nat → Int32 → Int32 → Int32 → Int32 → Int32 → Option (Int32 × rhM)} (hk27 : ∀ (M : rhM) (v0 : Nat) (v1 : Int32) (v2 : Int32) (v3 : Int32) (v4 : Int32) (v5 : Int32), rhF E 7 7 yX12_comes cX12_comes (some .int) Γ (rhe1I Γ) (k27 M v0 v1 v2 v3 v4 v5) 27 [(0, rhR v0), (1, rhI v1), (2, rhI v2), (3, rhI v3), (4, rhI v4), (5, rhI v5)] [] Γ M) : ∀ (M : rhM) (v0 : Nat) (v1 : Int32) (v2 : Int32) (v3 : Int32) (v4 : Int32) (v5 : Int32), rhF E 7 7 yX12_comes cX12_comes (some .int) Γ (rhe1I Γ) (f_X12_comes_149 k27 Γ M v0 v1 v2 v3 v4 v5) 149 [(0, rhR v0), (1, rhI v1), (2, rhI v2), (3, rhI v3), (4, rhI v4), (5, rhI v5)] [] Γ M := by
  intro M v0 v1 v2 v3 v4 v5
  rw [f_X12_comes_149]
  refine rhF.iinc (pc := 149) (L' := [(5, rhI _), (0, rhR _), (1, rhI _), (2, rhI _), (3, rhI _), (4, rhI _)]) dX12_comes_149 5 rfl rfl (by decide) rfl ?_
  refine rhF.goto (pc := 152) 27 dX12_comes_152 (by decide) ?_
  refine rhF.sub [1, 2, 3, 4, 5, 0] rfl ?_
  exact hk27 _ _ _ _ _ _ _
set_option maxHeartbeats 4000000 in
set_option maxRecDepth 100000 in
theorem b_X12_comes_27 {E : rhE} {Γ : rhG} : ∀ (n : Nat) (M : rhM) (v0 : Nat) (v1 : Int32) (v2 : Int32) (v3 : Int32) (v4 : Int32) (v5 : Int32), rhF E 7 7 yX12_comes cX12_comes (some .int) Γ (rhe1I Γ) (f_X12_comes_27 Γ n M v0 v1 v2 v3 v4 v5) 27 [(0, rhR v0), (1, rhI v1), (2, rhI v2), (3, rhI v3), (4, rhI v4), (5, rhI v5)] [] Γ M := by
  intro n
  induction n with
  | zero => intro M v0 v1 v2 v3 v4 v5; rw [f_X12_comes_27]; exact rhF.nope
  | succ n ih =>
    intro M v0 v1 v2 v3 v4 v5
    rw [f_X12_comes_27]
    refine rhF.iload (pc := 27) dX12_comes_27 5 rfl ?_
    refine rhF.aload_n (pc := 29) dX12_comes_29 0 rfl ?_
    refine rhF.ck (fun h6 => ?_)
    refine rhF.get (pc := 30) (rhR _) dX12_comes_30 fl_X12_39 h6 rfl ?_
    refine rhF.aload_n (pc := 33) dX12_comes_33 0 rfl ?_
    refine rhF.get (pc := 34) (rhI _) dX12_comes_34 fl_X12_327 h6 rfl ?_
    refine rhF.ck (fun h7 => ?_)
    refine rhF.ck (fun h8 => ?_)
    refine rhF.iald (pc := 37) dX12_comes_37 h7 h8 ?_
    refine rhF.icmp_ge (pc := 38) 155 dX12_comes_38 (by decide) (fun h9 => ?_) (fun h9 => ?_)
    · refine rhF.aload_n (pc := 41) dX12_comes_41 0 rfl ?_
      refine rhF.get (pc := 42) (rhR _) dX12_comes_42 fl_X12_77 h6 rfl ?_
      refine rhF.iload (pc := 45) dX12_comes_45 5 rfl ?_
      refine rhF.ck (fun h10 => ?_)
      refine rhF.ck (fun h11 => ?_)
      refine rhF.iald (pc := 47) dX12_comes_47 h10 h11 ?_
      refine rhF.istore (pc := 48) (L' := [(6, rhI _), (0, rhR _), (1, rhI _), (2, rhI _), (3, rhI _), (4, rhI _), (5, rhI _)]) dX12_comes_48 (by decide) rfl ?_
      refine rhF.iload (pc := 50) dX12_comes_50 0 rfl ?_
      refine rhF.bipush (pc := 52) (v := 126) dX12_comes_52 (by decide) ?_
      refine rhF.icmp_ne (pc := 54) 86 dX12_comes_54 (by decide) (fun h13 => ?_) (fun h13 => ?_)
      · refine rhF.aload_n (pc := 57) dX12_comes_57 1 rfl ?_
        refine rhF.get (pc := 58) (rhR _) dX12_comes_58 fl_X12_89 h6 rfl ?_
        refine rhF.iload (pc := 61) dX12_comes_61 5 rfl ?_
        refine rhF.iconst (pc := 63) (v := 1) dX12_comes_63 (by decide) ?_
        refine rhF.isub (pc := 64) dX12_comes_64 ?_
        refine rhF.aload_n (pc := 65) dX12_comes_65 1 rfl ?_
        refine rhF.get (pc := 66) (rhR _) dX12_comes_66 fl_X12_89 h6 rfl ?_
        refine rhF.iload (pc := 69) dX12_comes_69 5 rfl ?_
        refine rhF.iconst (pc := 71) (v := 1) dX12_comes_71 (by decide) ?_
        refine rhF.isub (pc := 72) dX12_comes_72 ?_
        refine rhF.ck (fun h14 => ?_)
        refine rhF.ck (fun h15 => ?_)
        refine rhF.iald (pc := 73) dX12_comes_73 h14 h15 ?_
        refine rhF.if_ne (pc := 74) 81 dX12_comes_74 (by decide) (fun h16 => ?_) (fun h16 => ?_)
        · refine rhF.iconst (pc := 77) (v := 1) dX12_comes_77 (by decide) ?_
          refine rhF.goto (pc := 78) 82 dX12_comes_78 (by decide) ?_
          refine rhF.sub [1, 2, 3, 4, 5, 6] rfl ?_
          exact (b_X12_comes_82 (b_X12_comes_149 ih)) _ _ _ _ _ _ _ _ _ _
        · refine rhF.iconst (pc := 81) (v := 0) dX12_comes_81 (by decide) ?_
          refine rhF.sub [1, 2, 3, 4, 5, 6] rfl ?_
          exact (b_X12_comes_82 (b_X12_comes_149 ih)) _ _ _ _ _ _ _ _ _ _
      · refine rhF.iload (pc := 86) dX12_comes_86 0 rfl ?_
        refine rhF.callS (pc := 88) (embc := rhe0I _ _) [rhI _] dX12_comes_88 ml_X12_269 ms_X12_isLetter (c_X12_isLetter _ _ _ _) (by decide) (by decide) rfl (Nat.le_of_ble_eq_true rfl) (fun r21 _ => ?_)
        refine rhF.if_eq (pc := 91) 116 dX12_comes_91 (by decide) (fun h22 => ?_) (fun h22 => ?_)
        · refine rhF.iinc (pc := 116) (L' := [(4, rhI _), (6, rhI _), (0, rhR _), (1, rhI _), (2, rhI _), (3, rhI _), (5, rhI _)]) dX12_comes_116 5 rfl rfl (by decide) rfl ?_
          refine rhF.aload_n (pc := 119) dX12_comes_119 2 rfl ?_
          refine rhF.get (pc := 120) (rhR _) dX12_comes_120 fl_X12_89 h6 rfl ?_
          refine rhF.iload (pc := 123) dX12_comes_123 0 rfl ?_
          refine rhF.iconst (pc := 125) (v := 1) dX12_comes_125 (by decide) ?_
          refine rhF.isub (pc := 126) dX12_comes_126 ?_
          refine rhF.iload (pc := 127) dX12_comes_127 1 rfl ?_
          refine rhF.aload_n (pc := 129) dX12_comes_129 2 rfl ?_
          refine rhF.get (pc := 130) (rhR _) dX12_comes_130 fl_X12_89 h6 rfl ?_
          refine rhF.iload (pc := 133) dX12_comes_133 0 rfl ?_
          refine rhF.iconst (pc := 135) (v := 1) dX12_comes_135 (by decide) ?_
          refine rhF.isub (pc := 136) dX12_comes_136 ?_
          refine rhF.ck (fun h24 => ?_)
          refine rhF.ck (fun h25 => ?_)
          refine rhF.iald (pc := 137) dX12_comes_137 h24 h25 ?_
          refine rhF.aload_n (pc := 138) dX12_comes_138 2 rfl ?_
          refine rhF.get (pc := 139) (rhR _) dX12_comes_139 fl_X12_89 h6 rfl ?_
          refine rhF.iload (pc := 142) dX12_comes_142 0 rfl ?_
          refine rhF.ck (fun h26 => ?_)
          refine rhF.iald (pc := 144) dX12_comes_144 h24 h26 ?_
          refine rhF.callS (pc := 145) (embc := rhe0I _ _) [rhI _, rhI _, rhI _] dX12_comes_145 ml_X12_442 ms_X12_two (c_X12_two _ _ _ _ _ _) (by decide) (by decide) rfl (Nat.le_of_ble_eq_true rfl) (fun r27 _ => ?_)
          refine rhF.iast (pc := 148) dX12_comes_148 h24 h25 ?_
          refine rhF.sub [2, 3, 4, 5, 0, 6] rfl ?_
          exact (b_X12_comes_149 ih) _ _ _ _ _ _ _
        · refine rhF.aload_n (pc := 94) dX12_comes_94 1 rfl ?_
          refine rhF.get (pc := 95) (rhR _) dX12_comes_95 fl_X12_89 h6 rfl ?_
          refine rhF.iload (pc := 98) dX12_comes_98 5 rfl ?_
          refine rhF.aload_n (pc := 100) dX12_comes_100 1 rfl ?_
          refine rhF.iload (pc := 101) dX12_comes_101 6 rfl ?_
          refine rhF.iload_n (pc := 103) dX12_comes_103 2 rfl ?_
          refine rhF.iload_n (pc := 104) dX12_comes_104 3 rfl ?_
          refine rhF.iload_n (pc := 105) dX12_comes_105 4 rfl ?_
          refine rhF.callV (pc := 106) (ci := 12) (embc := rhe0I _ _) [rhI _, rhI _, rhI _, rhI _] dX12_comes_106 ml_X12_438 mv_X12_amount ⟨_, rfl, rfl⟩ h6 (c_X12_amount _ _ _ _ _ _ _ _) (by decide) (by decide) rfl (Nat.le_of_ble_eq_true rfl) (fun r29 _ => ?_)
          refine rhF.ck (fun h30 => ?_)
          refine rhF.ck (fun h31 => ?_)
          refine rhF.iast (pc := 109) dX12_comes_109 h30 h31 ?_
          refine rhF.iinc (pc := 110) (L' := [(4, rhI _), (6, rhI _), (0, rhR _), (1, rhI _), (2, rhI _), (3, rhI _), (5, rhI _)]) dX12_comes_110 5 rfl rfl (by decide) rfl ?_
          refine rhF.goto (pc := 113) 149 dX12_comes_113 (by decide) ?_
          refine rhF.sub [2, 3, 4, 5, 0, 6] rfl ?_
          exact (b_X12_comes_149 ih) _ _ _ _ _ _ _
    · refine rhF.aload_n (pc := 155) dX12_comes_155 0 rfl ?_
      refine rhF.get (pc := 156) (rhR _) dX12_comes_156 fl_X12_89 h6 rfl ?_
      refine rhF.iconst (pc := 159) (v := 0) dX12_comes_159 (by decide) ?_
      refine rhF.ck (fun h34 => ?_)
      refine rhF.ck (fun h35 => ?_)
      refine rhF.iald (pc := 160) dX12_comes_160 h34 h35 ?_
      exact rhF.zret (pc := 161) dX12_comes_161 rfl rfl rfl
set_option maxHeartbeats 4000000 in
set_option maxRecDepth 100000 in
theorem b_X12_comes {E : rhE} {Γ : rhG} : ∀ (M : rhM) (v0 : Nat) (v1 : Int32) (v2 : Int32) (v3 : Int32), rhF E 7 7 yX12_comes cX12_comes (some .int) Γ (rhe1I Γ) (f_X12_comes Γ M v0 v1 v2 v3) 0 [(0, rhR v0), (1, rhI v1), (2, rhI v2), (3, rhI v3)] [] Γ M := by
  intro M v0 v1 v2 v3
  rw [f_X12_comes]
  refine rhF.aload_n (pc := 0) dX12_comes_0 0 rfl ?_
  refine rhF.ck (fun h1 => ?_)
  refine rhF.get (pc := 1) (rhR _) dX12_comes_1 fl_X12_64 h1 rfl ?_
  refine rhF.aload_n (pc := 4) dX12_comes_4 0 rfl ?_
  refine rhF.get (pc := 5) (rhI _) dX12_comes_5 fl_X12_327 h1 rfl ?_
  refine rhF.ck (fun h2 => ?_)
  refine rhF.ck (fun h3 => ?_)
  refine rhF.zald (pc := 8) dX12_comes_8 h2 h3 ?_
  refine rhF.if_ne (pc := 9) 14 dX12_comes_9 (by decide) (fun h4 => ?_) (fun h4 => ?_)
  · refine rhF.iconst (pc := 12) (v := 1) dX12_comes_12 (by decide) ?_
    exact rhF.zret (pc := 13) dX12_comes_13 rfl rfl rfl
  · refine rhF.iconst (pc := 14) (v := 0) dX12_comes_14 (by decide) ?_
    refine rhF.istore (pc := 15) (L' := [(4, rhI _), (0, rhR _), (1, rhI _), (2, rhI _), (3, rhI _)]) dX12_comes_15 (by decide) rfl ?_
    refine rhF.sipush (pc := 17) (v := 500) dX12_comes_17 (by decide) ?_
    refine rhF.aload_n (pc := 20) dX12_comes_20 1 rfl ?_
    refine rhF.get (pc := 21) (rhI _) dX12_comes_21 fl_X12_327 h1 rfl ?_
    refine rhF.imul (pc := 24) dX12_comes_24 ?_
    refine rhF.istore (pc := 25) (L' := [(5, rhI _), (4, rhI _), (0, rhR _), (1, rhI _), (2, rhI _), (3, rhI _)]) dX12_comes_25 (by decide) rfl ?_
    refine rhF.sub [2, 3, 4, 5, 1, 0] rfl ?_
    exact (b_X12_comes_27 rhFU) _ _ _ _ _ _ _
theorem c_X12_comes (E : rhE) (Γ : rhG) (M : rhM) (v0 : Nat) (v1 : Int32) (v2 : Int32) (v3 : Int32) : ∀ a, f_X12_comes Γ M v0 v1 v2 v3 = some a → rhC E 7 yX12_comes cX12_comes 7 (some .int) [rhR v0, rhI v1, rhI v2, rhI v3] Γ M ((rhe1I Γ) a) := rhF.met (by decide +kernel) (Nat.le_of_ble_eq_true rfl) (b_X12_comes M v0 v1 v2 v3)
def f_X12_isLawful (Γ : rhG) (M : rhM) (v0 : Nat) (v1 : Int32) (v2 : Int32) (v3 : Int32) : Option (Int32 × rhM) :=
  rhck (Γ.2.2.1 v0 = 13) <|
  (f_X12_canBe Γ M v0 v1 v2 v3).bind fun r2 =>
  if r2 = 0 then
    (some ((0, M)))
  else
    (f_X12_sumOf Γ M v0 (M.2.2 v0 19) v1 v2).bind fun r4 =>
    rhck (Γ.2.2.1 (M.2.2 v0 15) = 15) <|
    rhck (0 ≤ (M.1 v0 34).toInt ∧ (M.1 v0 34).toInt < (Γ.2.2.2 (M.2.2 v0 15) : Nat)) <|
    if (M.1 (M.2.2 v0 15) (M.1 v0 34).toNatClampNeg) < r4 then
      (some ((0, M)))
    else
      (f_X12_roomOn Γ M v0 v3).bind fun r8 =>
      if r8 < r4 then
        (some ((0, M)))
      else
        (f_X12_sumOf Γ M v0 (M.2.2 v0 20) v1 v2).bind fun r10 =>
        rhck (Γ.2.2.1 (M.2.2 v0 16) = 15) <|
        rhck (0 ≤ (M.1 v0 34).toInt ∧ (M.1 v0 34).toInt < (Γ.2.2.2 (M.2.2 v0 16) : Nat)) <|
        if (M.1 (M.2.2 v0 16) (M.1 v0 34).toNatClampNeg) < r10 then
          (some ((0, M)))
        else
          (f_X12_comes Γ M v0 v1 v2 v3).bind fun r14 =>
          if r14.1 = 0 then
            (some ((0, r14.2)))
          else
            some ((1, r14.2))
set_option maxHeartbeats 4000000 in
set_option maxRecDepth 100000 in
theorem b_X12_isLawful {E : rhE} {Γ : rhG} : ∀ (M : rhM) (v0 : Nat) (v1 : Int32) (v2 : Int32) (v3 : Int32), rhF E 8 5 yX12_isLawful cX12_isLawful (some .boolean) Γ (rhe1I Γ) (f_X12_isLawful Γ M v0 v1 v2 v3) 0 [(0, rhR v0), (1, rhI v1), (2, rhI v2), (3, rhI v3)] [] Γ M := by
  intro M v0 v1 v2 v3
  rw [f_X12_isLawful]
  refine rhF.aload_n (pc := 0) dX12_isLawful_0 0 rfl ?_
  refine rhF.iload_n (pc := 1) dX12_isLawful_1 1 rfl ?_
  refine rhF.iload_n (pc := 2) dX12_isLawful_2 2 rfl ?_
  refine rhF.iload_n (pc := 3) dX12_isLawful_3 3 rfl ?_
  refine rhF.ck (fun h1 => ?_)
  refine rhF.callV (pc := 4) (ci := 12) (embc := rhe0I _ _) [rhI _, rhI _, rhI _] dX12_isLawful_4 ml_X12_446 mv_X12_canBe ⟨_, rfl, rfl⟩ h1 (c_X12_canBe _ _ _ _ _ _ _) (by decide) (by decide) rfl (Nat.le_of_ble_eq_true rfl) (fun r2 _ => ?_)
  refine rhF.if_ne (pc := 7) 12 dX12_isLawful_7 (by decide) (fun h3 => ?_) (fun h3 => ?_)
  · refine rhF.iconst (pc := 10) (v := 0) dX12_isLawful_10 (by decide) ?_
    exact rhF.zret (pc := 11) dX12_isLawful_11 rfl rfl rfl
  · refine rhF.aload_n (pc := 12) dX12_isLawful_12 0 rfl ?_
    refine rhF.aload_n (pc := 13) dX12_isLawful_13 0 rfl ?_
    refine rhF.get (pc := 14) (rhR _) dX12_isLawful_14 fl_X12_45 h1 rfl ?_
    refine rhF.iload_n (pc := 17) dX12_isLawful_17 1 rfl ?_
    refine rhF.iload_n (pc := 18) dX12_isLawful_18 2 rfl ?_
    refine rhF.callV (pc := 19) (ci := 12) (embc := rhe0I _ _) [rhR _, rhI _, rhI _] dX12_isLawful_19 ml_X12_431 mv_X12_sumOf ⟨_, rfl, rfl⟩ h1 (c_X12_sumOf _ _ _ _ _ _ _) (by decide) (by decide) rfl (Nat.le_of_ble_eq_true rfl) (fun r4 _ => ?_)
    refine rhF.istore (pc := 22) (L' := [(4, rhI _), (0, rhR _), (1, rhI _), (2, rhI _), (3, rhI _)]) dX12_isLawful_22 (by decide) rfl ?_
    refine rhF.iload (pc := 24) dX12_isLawful_24 0 rfl ?_
    refine rhF.aload_n (pc := 26) dX12_isLawful_26 1 rfl ?_
    refine rhF.get (pc := 27) (rhR _) dX12_isLawful_27 fl_X12_33 h1 rfl ?_
    refine rhF.aload_n (pc := 30) dX12_isLawful_30 1 rfl ?_
    refine rhF.get (pc := 31) (rhI _) dX12_isLawful_31 fl_X12_327 h1 rfl ?_
    refine rhF.ck (fun h5 => ?_)
    refine rhF.ck (fun h6 => ?_)
    refine rhF.iald (pc := 34) dX12_isLawful_34 h5 h6 ?_
    refine rhF.icmp_gt (pc := 35) 84 dX12_isLawful_35 (by decide) (fun h7 => ?_) (fun h7 => ?_)
    · refine rhF.iconst (pc := 84) (v := 0) dX12_isLawful_84 (by decide) ?_
      exact rhF.zret (pc := 85) dX12_isLawful_85 rfl rfl rfl
    · refine rhF.iload (pc := 38) dX12_isLawful_38 0 rfl ?_
      refine rhF.aload_n (pc := 40) dX12_isLawful_40 1 rfl ?_
      refine rhF.iload_n (pc := 41) dX12_isLawful_41 4 rfl ?_
      refine rhF.callV (pc := 42) (ci := 12) (embc := rhe0I _ _) [rhI _] dX12_isLawful_42 ml_X12_435 mv_X12_roomOn ⟨_, rfl, rfl⟩ h1 (c_X12_roomOn _ _ _ _ _) (by decide) (by decide) rfl (Nat.le_of_ble_eq_true rfl) (fun r8 _ => ?_)
      refine rhF.icmp_gt (pc := 45) 84 dX12_isLawful_45 (by decide) (fun h9 => ?_) (fun h9 => ?_)
      · refine rhF.iconst (pc := 84) (v := 0) dX12_isLawful_84 (by decide) ?_
        exact rhF.zret (pc := 85) dX12_isLawful_85 rfl rfl rfl
      · refine rhF.aload_n (pc := 48) dX12_isLawful_48 1 rfl ?_
        refine rhF.aload_n (pc := 49) dX12_isLawful_49 1 rfl ?_
        refine rhF.get (pc := 50) (rhR _) dX12_isLawful_50 fl_X12_48 h1 rfl ?_
        refine rhF.iload_n (pc := 53) dX12_isLawful_53 2 rfl ?_
        refine rhF.iload_n (pc := 54) dX12_isLawful_54 3 rfl ?_
        refine rhF.callV (pc := 55) (ci := 12) (embc := rhe0I _ _) [rhR _, rhI _, rhI _] dX12_isLawful_55 ml_X12_431 mv_X12_sumOf ⟨_, rfl, rfl⟩ h1 (c_X12_sumOf _ _ _ _ _ _ _) (by decide) (by decide) rfl (Nat.le_of_ble_eq_true rfl) (fun r10 _ => ?_)
        refine rhF.aload_n (pc := 58) dX12_isLawful_58 1 rfl ?_
        refine rhF.get (pc := 59) (rhR _) dX12_isLawful_59 fl_X12_36 h1 rfl ?_
        refine rhF.aload_n (pc := 62) dX12_isLawful_62 1 rfl ?_
        refine rhF.get (pc := 63) (rhI _) dX12_isLawful_63 fl_X12_327 h1 rfl ?_
        refine rhF.ck (fun h11 => ?_)
        refine rhF.ck (fun h12 => ?_)
        refine rhF.iald (pc := 66) dX12_isLawful_66 h11 h12 ?_
        refine rhF.icmp_gt (pc := 67) 84 dX12_isLawful_67 (by decide) (fun h13 => ?_) (fun h13 => ?_)
        · refine rhF.iconst (pc := 84) (v := 0) dX12_isLawful_84 (by decide) ?_
          exact rhF.zret (pc := 85) dX12_isLawful_85 rfl rfl rfl
        · refine rhF.aload_n (pc := 70) dX12_isLawful_70 1 rfl ?_
          refine rhF.iload_n (pc := 71) dX12_isLawful_71 2 rfl ?_
          refine rhF.iload_n (pc := 72) dX12_isLawful_72 3 rfl ?_
          refine rhF.iload_n (pc := 73) dX12_isLawful_73 4 rfl ?_
          refine rhF.callV (pc := 74) (ci := 12) (embc := rhe1I _) [rhI _, rhI _, rhI _] dX12_isLawful_74 ml_X12_449 mv_X12_comes ⟨_, rfl, rfl⟩ h1 (c_X12_comes _ _ _ _ _ _ _) (by decide) (by decide) rfl (Nat.le_of_ble_eq_true rfl) (fun r14 _ => ?_)
          refine rhF.if_eq (pc := 77) 84 dX12_isLawful_77 (by decide) (fun h15 => ?_) (fun h15 => ?_)
          · refine rhF.iconst (pc := 84) (v := 0) dX12_isLawful_84 (by decide) ?_
            exact rhF.zret (pc := 85) dX12_isLawful_85 rfl rfl rfl
          · refine rhF.iconst (pc := 80) (v := 1) dX12_isLawful_80 (by decide) ?_
            refine rhF.goto (pc := 81) 85 dX12_isLawful_81 (by decide) ?_
            exact rhF.zret (pc := 85) dX12_isLawful_85 rfl rfl rfl
theorem c_X12_isLawful (E : rhE) (Γ : rhG) (M : rhM) (v0 : Nat) (v1 : Int32) (v2 : Int32) (v3 : Int32) : ∀ a, f_X12_isLawful Γ M v0 v1 v2 v3 = some a → rhC E 8 yX12_isLawful cX12_isLawful 5 (some .boolean) [rhR v0, rhI v1, rhI v2, rhI v3] Γ M ((rhe1I Γ) a) := rhF.met (by decide +kernel) (Nat.le_of_ble_eq_true rfl) (b_X12_isLawful M v0 v1 v2 v3)
def f_X12_keepAt_2 (k26 : rhM → Nat → Option (rhM)) (Γ : rhG) : Nat → rhM → Nat → Int32 → Option (rhM)
  | 0, _, _, _ => none
  | n + 1, M, v0, v1 =>
    if v1 < 8 then
      (rhck (Γ.2.2.1 v0 = 13) <|
      rhck (Γ.2.2.1 (M.2.2 v0 39) = 15) <|
      rhck (0 ≤ (v1).toInt ∧ (v1).toInt < (Γ.2.2.2 (M.2.2 v0 39) : Nat)) <|
      rhck (Γ.2.2.1 (M.2.2 v0 63) = 15) <|
      rhck (0 ≤ (v1).toInt ∧ (v1).toInt < (Γ.2.2.2 (M.2.2 v0 63) : Nat)) <|
      let M7 := rhsi M (M.2.2 v0 63) (v1 : Int32).toNatClampNeg (M.1 (M.2.2 v0 39) v1.toNatClampNeg)
      let x8 : Int32 := v1 + 1
      f_X12_keepAt_2 k26 Γ n M7 v0 x8)
    else
      k26 M v0
def f_X12_keepAt_28 (Γ : rhG) : Nat → rhM → Nat → Int32 → Option (rhM)
  | 0, _, _, _ => none
  | n + 1, M, v0, v1 =>
    if v1 < 5 then
      (rhck (Γ.2.2.1 v0 = 13) <|
      rhck (Γ.2.2.1 (M.2.2 v0 40) = 15) <|
      rhck (0 ≤ (v1).toInt ∧ (v1).toInt < (Γ.2.2.2 (M.2.2 v0 40) : Nat)) <|
      rhck (Γ.2.2.1 (M.2.2 v0 64) = 15) <|
      rhck (0 ≤ (v1).toInt ∧ (v1).toInt < (Γ.2.2.2 (M.2.2 v0 64) : Nat)) <|
      let M15 := rhsi M (M.2.2 v0 64) (v1 : Int32).toNatClampNeg (M.1 (M.2.2 v0 40) v1.toNatClampNeg)
      let x16 : Int32 := v1 + 1
      f_X12_keepAt_28 Γ n M15 v0 x16)
    else
      some M
def f_X12_keepAt_26 (Γ : rhG) (M : rhM) (v0 : Nat) : Option (rhM) :=
  f_X12_keepAt_28 Γ rhFU M v0 0
def f_X12_keepAt (Γ : rhG) (M : rhM) (v0 : Nat) : Option (rhM) :=
  f_X12_keepAt_2 (f_X12_keepAt_26 Γ) Γ rhFU M v0 0
set_option maxHeartbeats 4000000 in
set_option maxRecDepth 100000 in
theorem b_X12_keepAt_2 {E : rhE} {Γ : rhG} {k26 : rhM → Nat → Option (rhM)} (hk26 : ∀ (M : rhM) (v0 : Nat), rhF E 1 2 yX12_keepAt cX12_keepAt none Γ (rhe1U Γ) (k26 M v0) 26 [(0, rhR v0)] [] Γ M) : ∀ (n : Nat) (M : rhM) (v0 : Nat) (v1 : Int32), rhF E 1 2 yX12_keepAt cX12_keepAt none Γ (rhe1U Γ) (f_X12_keepAt_2 k26 Γ n M v0 v1) 2 [(0, rhR v0), (1, rhI v1)] [] Γ M := by
  intro n
  induction n with
  | zero => intro M v0 v1; rw [f_X12_keepAt_2]; exact rhF.nope
  | succ n ih =>
    intro M v0 v1
    rw [f_X12_keepAt_2]
    refine rhF.iload_n (pc := 2) dX12_keepAt_2 1 rfl ?_
    refine rhF.bipush (pc := 3) (v := 8) dX12_keepAt_3 (by decide) ?_
    refine rhF.icmp_ge (pc := 5) 26 dX12_keepAt_5 (by decide) (fun h1 => ?_) (fun h1 => ?_)
    · refine rhF.aload_n (pc := 8) dX12_keepAt_8 0 rfl ?_
      refine rhF.ck (fun h2 => ?_)
      refine rhF.get (pc := 9) (rhR _) dX12_keepAt_9 fl_X12_142 h2 rfl ?_
      refine rhF.iload_n (pc := 12) dX12_keepAt_12 1 rfl ?_
      refine rhF.aload_n (pc := 13) dX12_keepAt_13 0 rfl ?_
      refine rhF.get (pc := 14) (rhR _) dX12_keepAt_14 fl_X12_92 h2 rfl ?_
      refine rhF.iload_n (pc := 17) dX12_keepAt_17 1 rfl ?_
      refine rhF.ck (fun h3 => ?_)
      refine rhF.ck (fun h4 => ?_)
      refine rhF.iald (pc := 18) dX12_keepAt_18 h3 h4 ?_
      refine rhF.ck (fun h5 => ?_)
      refine rhF.ck (fun h6 => ?_)
      refine rhF.iast (pc := 19) dX12_keepAt_19 h5 h6 ?_
      refine rhF.iinc (pc := 20) (L' := [(1, rhI _), (0, rhR _)]) dX12_keepAt_20 1 rfl rfl (by decide) rfl ?_
      refine rhF.goto (pc := 23) 2 dX12_keepAt_23 (by decide) ?_
      refine rhF.sub [1, 0] rfl ?_
      exact ih _ _ _
    · refine rhF.sub [0] rfl ?_
      exact hk26 _ _
set_option maxHeartbeats 4000000 in
set_option maxRecDepth 100000 in
theorem b_X12_keepAt_28 {E : rhE} {Γ : rhG} : ∀ (n : Nat) (M : rhM) (v0 : Nat) (v1 : Int32), rhF E 1 2 yX12_keepAt cX12_keepAt none Γ (rhe1U Γ) (f_X12_keepAt_28 Γ n M v0 v1) 28 [(0, rhR v0), (1, rhI v1)] [] Γ M := by
  intro n
  induction n with
  | zero => intro M v0 v1; rw [f_X12_keepAt_28]; exact rhF.nope
  | succ n ih =>
    intro M v0 v1
    rw [f_X12_keepAt_28]
    refine rhF.iload_n (pc := 28) dX12_keepAt_28 1 rfl ?_
    refine rhF.iconst (pc := 29) (v := 5) dX12_keepAt_29 (by decide) ?_
    refine rhF.icmp_ge (pc := 30) 51 dX12_keepAt_30 (by decide) (fun h9 => ?_) (fun h9 => ?_)
    · refine rhF.aload_n (pc := 33) dX12_keepAt_33 0 rfl ?_
      refine rhF.ck (fun h10 => ?_)
      refine rhF.get (pc := 34) (rhR _) dX12_keepAt_34 fl_X12_145 h10 rfl ?_
      refine rhF.iload_n (pc := 37) dX12_keepAt_37 1 rfl ?_
      refine rhF.aload_n (pc := 38) dX12_keepAt_38 0 rfl ?_
      refine rhF.get (pc := 39) (rhR _) dX12_keepAt_39 fl_X12_95 h10 rfl ?_
      refine rhF.iload_n (pc := 42) dX12_keepAt_42 1 rfl ?_
      refine rhF.ck (fun h11 => ?_)
      refine rhF.ck (fun h12 => ?_)
      refine rhF.iald (pc := 43) dX12_keepAt_43 h11 h12 ?_
      refine rhF.ck (fun h13 => ?_)
      refine rhF.ck (fun h14 => ?_)
      refine rhF.iast (pc := 44) dX12_keepAt_44 h13 h14 ?_
      refine rhF.iinc (pc := 45) (L' := [(1, rhI _), (0, rhR _)]) dX12_keepAt_45 1 rfl rfl (by decide) rfl ?_
      refine rhF.goto (pc := 48) 28 dX12_keepAt_48 (by decide) ?_
      refine rhF.sub [1, 0] rfl ?_
      exact ih _ _ _
    · exact rhF.vret (pc := 51) dX12_keepAt_51 rfl rfl
set_option maxHeartbeats 4000000 in
set_option maxRecDepth 100000 in
theorem b_X12_keepAt_26 {E : rhE} {Γ : rhG} : ∀ (M : rhM) (v0 : Nat), rhF E 1 2 yX12_keepAt cX12_keepAt none Γ (rhe1U Γ) (f_X12_keepAt_26 Γ M v0) 26 [(0, rhR v0)] [] Γ M := by
  intro M v0
  rw [f_X12_keepAt_26]
  refine rhF.iconst (pc := 26) (v := 0) dX12_keepAt_26 (by decide) ?_
  refine rhF.istore_n (pc := 27) (L' := [(1, rhI _), (0, rhR _)]) dX12_keepAt_27 (by decide) rfl ?_
  refine rhF.sub [1, 0] rfl ?_
  exact (b_X12_keepAt_28 rhFU) _ _ _
set_option maxHeartbeats 4000000 in
set_option maxRecDepth 100000 in
theorem b_X12_keepAt {E : rhE} {Γ : rhG} : ∀ (M : rhM) (v0 : Nat), rhF E 1 2 yX12_keepAt cX12_keepAt none Γ (rhe1U Γ) (f_X12_keepAt Γ M v0) 0 [(0, rhR v0)] [] Γ M := by
  intro M v0
  rw [f_X12_keepAt]
  refine rhF.iconst (pc := 0) (v := 0) dX12_keepAt_0 (by decide) ?_
  refine rhF.istore_n (pc := 1) (L' := [(1, rhI _), (0, rhR _)]) dX12_keepAt_1 (by decide) rfl ?_
  refine rhF.sub [1, 0] rfl ?_
  exact (b_X12_keepAt_2 (b_X12_keepAt_26) rhFU) _ _ _
theorem c_X12_keepAt (E : rhE) (Γ : rhG) (M : rhM) (v0 : Nat) : ∀ a, f_X12_keepAt Γ M v0 = some a → rhC E 1 yX12_keepAt cX12_keepAt 2 none [rhR v0] Γ M ((rhe1U Γ) a) := rhF.met (by decide +kernel) (Nat.le_of_ble_eq_true rfl) (b_X12_keepAt M v0)
def f_X12_layAt_2 (k26 : rhM → Nat → Option (rhM)) (Γ : rhG) : Nat → rhM → Nat → Int32 → Option (rhM)
  | 0, _, _, _ => none
  | n + 1, M, v0, v1 =>
    if v1 < 8 then
      (rhck (Γ.2.2.1 v0 = 13) <|
      rhck (Γ.2.2.1 (M.2.2 v0 63) = 15) <|
      rhck (0 ≤ (v1).toInt ∧ (v1).toInt < (Γ.2.2.2 (M.2.2 v0 63) : Nat)) <|
      rhck (Γ.2.2.1 (M.2.2 v0 39) = 15) <|
      rhck (0 ≤ (v1).toInt ∧ (v1).toInt < (Γ.2.2.2 (M.2.2 v0 39) : Nat)) <|
      let M7 := rhsi M (M.2.2 v0 39) (v1 : Int32).toNatClampNeg (M.1 (M.2.2 v0 63) v1.toNatClampNeg)
      let x8 : Int32 := v1 + 1
      f_X12_layAt_2 k26 Γ n M7 v0 x8)
    else
      k26 M v0
def f_X12_layAt_28 (Γ : rhG) : Nat → rhM → Nat → Int32 → Option (rhM)
  | 0, _, _, _ => none
  | n + 1, M, v0, v1 =>
    if v1 < 5 then
      (rhck (Γ.2.2.1 v0 = 13) <|
      rhck (Γ.2.2.1 (M.2.2 v0 64) = 15) <|
      rhck (0 ≤ (v1).toInt ∧ (v1).toInt < (Γ.2.2.2 (M.2.2 v0 64) : Nat)) <|
      rhck (Γ.2.2.1 (M.2.2 v0 40) = 15) <|
      rhck (0 ≤ (v1).toInt ∧ (v1).toInt < (Γ.2.2.2 (M.2.2 v0 40) : Nat)) <|
      let M15 := rhsi M (M.2.2 v0 40) (v1 : Int32).toNatClampNeg (M.1 (M.2.2 v0 64) v1.toNatClampNeg)
      let x16 : Int32 := v1 + 1
      f_X12_layAt_28 Γ n M15 v0 x16)
    else
      some M
def f_X12_layAt_26 (Γ : rhG) (M : rhM) (v0 : Nat) : Option (rhM) :=
  f_X12_layAt_28 Γ rhFU M v0 0
def f_X12_layAt (Γ : rhG) (M : rhM) (v0 : Nat) : Option (rhM) :=
  f_X12_layAt_2 (f_X12_layAt_26 Γ) Γ rhFU M v0 0
set_option maxHeartbeats 4000000 in
set_option maxRecDepth 100000 in
theorem b_X12_layAt_2 {E : rhE} {Γ : rhG} {k26 : rhM → Nat → Option (rhM)} (hk26 : ∀ (M : rhM) (v0 : Nat), rhF E 1 2 yX12_layAt cX12_layAt none Γ (rhe1U Γ) (k26 M v0) 26 [(0, rhR v0)] [] Γ M) : ∀ (n : Nat) (M : rhM) (v0 : Nat) (v1 : Int32), rhF E 1 2 yX12_layAt cX12_layAt none Γ (rhe1U Γ) (f_X12_layAt_2 k26 Γ n M v0 v1) 2 [(0, rhR v0), (1, rhI v1)] [] Γ M := by
  intro n
  induction n with
  | zero => intro M v0 v1; rw [f_X12_layAt_2]; exact rhF.nope
  | succ n ih =>
    intro M v0 v1
    rw [f_X12_layAt_2]
    refine rhF.iload_n (pc := 2) dX12_layAt_2 1 rfl ?_
    refine rhF.bipush (pc := 3) (v := 8) dX12_layAt_3 (by decide) ?_
    refine rhF.icmp_ge (pc := 5) 26 dX12_layAt_5 (by decide) (fun h1 => ?_) (fun h1 => ?_)
    · refine rhF.aload_n (pc := 8) dX12_layAt_8 0 rfl ?_
      refine rhF.ck (fun h2 => ?_)
      refine rhF.get (pc := 9) (rhR _) dX12_layAt_9 fl_X12_92 h2 rfl ?_
      refine rhF.iload_n (pc := 12) dX12_layAt_12 1 rfl ?_
      refine rhF.aload_n (pc := 13) dX12_layAt_13 0 rfl ?_
      refine rhF.get (pc := 14) (rhR _) dX12_layAt_14 fl_X12_142 h2 rfl ?_
      refine rhF.iload_n (pc := 17) dX12_layAt_17 1 rfl ?_
      refine rhF.ck (fun h3 => ?_)
      refine rhF.ck (fun h4 => ?_)
      refine rhF.iald (pc := 18) dX12_layAt_18 h3 h4 ?_
      refine rhF.ck (fun h5 => ?_)
      refine rhF.ck (fun h6 => ?_)
      refine rhF.iast (pc := 19) dX12_layAt_19 h5 h6 ?_
      refine rhF.iinc (pc := 20) (L' := [(1, rhI _), (0, rhR _)]) dX12_layAt_20 1 rfl rfl (by decide) rfl ?_
      refine rhF.goto (pc := 23) 2 dX12_layAt_23 (by decide) ?_
      refine rhF.sub [1, 0] rfl ?_
      exact ih _ _ _
    · refine rhF.sub [0] rfl ?_
      exact hk26 _ _
set_option maxHeartbeats 4000000 in
set_option maxRecDepth 100000 in
theorem b_X12_layAt_28 {E : rhE} {Γ : rhG} : ∀ (n : Nat) (M : rhM) (v0 : Nat) (v1 : Int32), rhF E 1 2 yX12_layAt cX12_layAt none Γ (rhe1U Γ) (f_X12_layAt_28 Γ n M v0 v1) 28 [(0, rhR v0), (1, rhI v1)] [] Γ M := by
  intro n
  induction n with
  | zero => intro M v0 v1; rw [f_X12_layAt_28]; exact rhF.nope
  | succ n ih =>
    intro M v0 v1
    rw [f_X12_layAt_28]
    refine rhF.iload_n (pc := 28) dX12_layAt_28 1 rfl ?_
    refine rhF.iconst (pc := 29) (v := 5) dX12_layAt_29 (by decide) ?_
    refine rhF.icmp_ge (pc := 30) 51 dX12_layAt_30 (by decide) (fun h9 => ?_) (fun h9 => ?_)
    · refine rhF.aload_n (pc := 33) dX12_layAt_33 0 rfl ?_
      refine rhF.ck (fun h10 => ?_)
      refine rhF.get (pc := 34) (rhR _) dX12_layAt_34 fl_X12_95 h10 rfl ?_
      refine rhF.iload_n (pc := 37) dX12_layAt_37 1 rfl ?_
      refine rhF.aload_n (pc := 38) dX12_layAt_38 0 rfl ?_
      refine rhF.get (pc := 39) (rhR _) dX12_layAt_39 fl_X12_145 h10 rfl ?_
      refine rhF.iload_n (pc := 42) dX12_layAt_42 1 rfl ?_
      refine rhF.ck (fun h11 => ?_)
      refine rhF.ck (fun h12 => ?_)
      refine rhF.iald (pc := 43) dX12_layAt_43 h11 h12 ?_
      refine rhF.ck (fun h13 => ?_)
      refine rhF.ck (fun h14 => ?_)
      refine rhF.iast (pc := 44) dX12_layAt_44 h13 h14 ?_
      refine rhF.iinc (pc := 45) (L' := [(1, rhI _), (0, rhR _)]) dX12_layAt_45 1 rfl rfl (by decide) rfl ?_
      refine rhF.goto (pc := 48) 28 dX12_layAt_48 (by decide) ?_
      refine rhF.sub [1, 0] rfl ?_
      exact ih _ _ _
    · exact rhF.vret (pc := 51) dX12_layAt_51 rfl rfl
set_option maxHeartbeats 4000000 in
set_option maxRecDepth 100000 in
theorem b_X12_layAt_26 {E : rhE} {Γ : rhG} : ∀ (M : rhM) (v0 : Nat), rhF E 1 2 yX12_layAt cX12_layAt none Γ (rhe1U Γ) (f_X12_layAt_26 Γ M v0) 26 [(0, rhR v0)] [] Γ M := by
  intro M v0
  rw [f_X12_layAt_26]
  refine rhF.iconst (pc := 26) (v := 0) dX12_layAt_26 (by decide) ?_
  refine rhF.istore_n (pc := 27) (L' := [(1, rhI _), (0, rhR _)]) dX12_layAt_27 (by decide) rfl ?_
  refine rhF.sub [1, 0] rfl ?_
  exact (b_X12_layAt_28 rhFU) _ _ _
set_option maxHeartbeats 4000000 in
set_option maxRecDepth 100000 in
theorem b_X12_layAt {E : rhE} {Γ : rhG} : ∀ (M : rhM) (v0 : Nat), rhF E 1 2 yX12_layAt cX12_layAt none Γ (rhe1U Γ) (f_X12_layAt Γ M v0) 0 [(0, rhR v0)] [] Γ M := by
  intro M v0
  rw [f_X12_layAt]
  refine rhF.iconst (pc := 0) (v := 0) dX12_layAt_0 (by decide) ?_
  refine rhF.istore_n (pc := 1) (L' := [(1, rhI _), (0, rhR _)]) dX12_layAt_1 (by decide) rfl ?_
  refine rhF.sub [1, 0] rfl ?_
  exact (b_X12_layAt_2 (b_X12_layAt_26) rhFU) _ _ _
theorem c_X12_layAt (E : rhE) (Γ : rhG) (M : rhM) (v0 : Nat) : ∀ a, f_X12_layAt Γ M v0 = some a → rhC E 1 yX12_layAt cX12_layAt 2 none [rhR v0] Γ M ((rhe1U Γ) a) := rhF.met (by decide +kernel) (Nat.le_of_ble_eq_true rfl) (b_X12_layAt M v0)
def f_X12_houseMany (Γ : rhG) (M : rhM) (v0 : Nat) : Option (Int32) :=
  rhck (Γ.2.2.1 v0 = 13) <|
  rhck (Γ.2.2.1 (M.2.2 v0 12) = 15) <|
  rhck (0 ≤ (M.1 v0 34).toInt ∧ (M.1 v0 34).toInt < (Γ.2.2.2 (M.2.2 v0 12) : Nat)) <|
  some (M.1 (M.2.2 v0 12) (M.1 v0 34).toNatClampNeg)
set_option maxHeartbeats 4000000 in
set_option maxRecDepth 100000 in
theorem b_X12_houseMany {E : rhE} {Γ : rhG} {M : rhM} : ∀ (v0 : Nat), rhF E 1 1 yX12_houseMany cX12_houseMany (some .int) Γ (rhe0I Γ M) (f_X12_houseMany Γ M v0) 0 [(0, rhR v0)] [] Γ M := by
  intro v0
  rw [f_X12_houseMany]
  refine rhF.aload_n (pc := 0) dX12_houseMany_0 0 rfl ?_
  refine rhF.ck (fun h1 => ?_)
  refine rhF.get (pc := 1) (rhR _) dX12_houseMany_1 fl_X12_24 h1 rfl ?_
  refine rhF.aload_n (pc := 4) dX12_houseMany_4 0 rfl ?_
  refine rhF.get (pc := 5) (rhI _) dX12_houseMany_5 fl_X12_327 h1 rfl ?_
  refine rhF.ck (fun h2 => ?_)
  refine rhF.ck (fun h3 => ?_)
  refine rhF.iald (pc := 8) dX12_houseMany_8 h2 h3 ?_
  exact rhF.zret (pc := 9) dX12_houseMany_9 rfl rfl rfl
theorem c_X12_houseMany (E : rhE) (Γ : rhG) (M : rhM) (v0 : Nat) : ∀ a, f_X12_houseMany Γ M v0 = some a → rhC E 1 yX12_houseMany cX12_houseMany 1 (some .int) [rhR v0] Γ M ((rhe0I Γ M) a) := rhF.met (by decide +kernel) (Nat.le_of_ble_eq_true rfl) (b_X12_houseMany v0)
def f_X12_layState_10 (k37 : rhM → Nat → Int32 → Int32 → Option (rhM)) (Γ : rhG) : Nat → rhM → Nat → Int32 → Int32 → Int32 → Option (rhM)
  | 0, _, _, _, _, _ => none
  | n + 1, M, v0, v2, v3, v4 =>
    if v4 < 0 then
      (k37 M v0 v2 v3)
    else
      rhck (Γ.2.2.1 v0 = 13) <|
      rhck (Γ.2.2.1 (M.2.2 v0 40) = 15) <|
      rhck (0 ≤ (v4).toInt ∧ (v4).toInt < (Γ.2.2.2 (M.2.2 v0 40) : Nat)) <|
      let M7 := rhsi M (M.2.2 v0 40) (v4 : Int32).toNatClampNeg (v3 - v3 / 7 * 7)
      let x8 := v3 / 7
      let x9 : Int32 := v4 + (-1)
      f_X12_layState_10 k37 Γ n M7 v0 v2 x8 x9
def f_X12_layState_60 (k91 : rhM → Nat → Int32 → Int32 → Option (rhM)) (Γ : rhG) : Nat → rhM → Nat → Int32 → Int32 → Int32 → Int32 → Option (rhM)
  | 0, _, _, _, _, _, _ => none
  | n + 1, M, v0, v2, v3, v4, v5 =>
    if v5 < 0 then
      (k91 M v0 v2 v4)
    else
      rhck (Γ.2.2.1 v0 = 13) <|
      rhck (¬ (v2 - v5) = 0) <|
      rhck (Γ.2.2.1 (M.2.2 v0 41) = 15) <|
      rhck (0 ≤ (v5).toInt ∧ (v5).toInt < (Γ.2.2.2 (M.2.2 v0 41) : Nat)) <|
      let M22 := rhsi M (M.2.2 v0 41) (v5 : Int32).toNatClampNeg (v3 - v3 / (v2 - v5) * (v2 - v5))
      rhck (¬ (v2 - v5) = 0) <|
      let x24 := v3 / (v2 - v5)
      let x25 : Int32 := v5 + (-1)
      f_X12_layState_60 k91 Γ n M22 v0 v2 x24 v4 x25
def f_X12_layState_146 (k112 : rhM → Nat → Int32 → Int32 → Int32 → Int32 → Int32 → Option (rhM)) (Γ : rhG) (M : rhM) (v0 : Nat) (v2 : Int32) (v4 : Int32) (v5 : Int32) (v6 : Int32) (s0 : Int32) (s1 : Int32) : Option (rhM) :=
  let x33 := s0 - s1
  let x34 : Int32 := v6 + 1
  k112 M v0 v2 v4 v5 x34 x33
def f_X12_layState_128 (k112 : rhM → Nat → Int32 → Int32 → Int32 → Int32 → Int32 → Option (rhM)) (Γ : rhG) (M : rhM) (v0 : Nat) (v2 : Int32) (v4 : Int32) (v5 : Int32) (v6 : Int32) (v7 : Int32) : Option (rhM) :=
  if ((v4 >>> (v6 &&& 31)) &&& 1) = 1 then
    (f_X12_layState_146 k112 Γ M v0 v2 v4 v5 v6 v7 0)
  else
    f_X12_layState_146 k112 Γ M v0 v2 v4 v5 v6 v7 1
def f_X12_layState_112 (k155 : rhM → Nat → Int32 → Int32 → Int32 → Int32 → Option (rhM)) (Γ : rhG) : Nat → rhM → Nat → Int32 → Int32 → Int32 → Int32 → Int32 → Option (rhM)
  | 0, _, _, _, _, _, _, _ => none
  | n + 1, M, v0, v2, v4, v5, v6, v7 =>
    if ((v4 >>> (v6 &&& 31)) &&& 1) = 1 then
      (f_X12_layState_128 (f_X12_layState_112 k155 Γ n) Γ M v0 v2 v4 v5 v6 v7)
    else
      if 0 < v7 then
        (f_X12_layState_128 (f_X12_layState_112 k155 Γ n) Γ M v0 v2 v4 v5 v6 v7)
      else
        k155 M v0 v2 v4 v5 v6
def f_X12_layState_155 (k94 : rhM → Nat → Int32 → Int32 → Int32 → Option (rhM)) (Γ : rhG) (M : rhM) (v0 : Nat) (v2 : Int32) (v4 : Int32) (v5 : Int32) (v6 : Int32) : Option (rhM) :=
  rhck (Γ.2.2.1 v0 = 13) <|
  rhck (Γ.2.2.1 (M.2.2 v0 39) = 15) <|
  rhck (0 ≤ (v5).toInt ∧ (v5).toInt < (Γ.2.2.2 (M.2.2 v0 39) : Nat)) <|
  let M39 := rhsi M (M.2.2 v0 39) (v5 : Int32).toNatClampNeg v6
  let x40 := v4 ||| (1 <<< (v6 &&& 31))
  let x41 : Int32 := v5 + 1
  k94 M39 v0 v2 x40 x41
def f_X12_layState_94 (Γ : rhG) : Nat → rhM → Nat → Int32 → Int32 → Int32 → Option (rhM)
  | 0, _, _, _, _, _ => none
  | n + 1, M, v0, v2, v4, v5 =>
    if v5 < v2 then
      (rhck (Γ.2.2.1 v0 = 13) <|
      rhck (Γ.2.2.1 (M.2.2 v0 41) = 15) <|
      rhck (0 ≤ (v5).toInt ∧ (v5).toInt < (Γ.2.2.2 (M.2.2 v0 41) : Nat)) <|
      let x30 := M.1 (M.2.2 v0 41) v5.toNatClampNeg
      f_X12_layState_112 (f_X12_layState_155 (f_X12_layState_94 Γ n) Γ) Γ rhFU M v0 v2 v4 v5 0 x30)
    else
      some M
def f_X12_layState_91 (Γ : rhG) (M : rhM) (v0 : Nat) (v2 : Int32) (v4 : Int32) : Option (rhM) :=
  f_X12_layState_94 Γ rhFU M v0 v2 v4 0
def f_X12_layState_52 (Γ : rhG) (M : rhM) (v0 : Nat) (v2 : Int32) (v3 : Int32) : Option (rhM) :=
  let x16 := v2 - 1
  f_X12_layState_60 (f_X12_layState_91 Γ) Γ rhFU M v0 v2 v3 0 x16
def f_X12_layState_37 (Γ : rhG) (M : rhM) (v0 : Nat) (v2 : Int32) (v3 : Int32) : Option (rhM) :=
  rhck (Γ.2.2.1 v0 = 13) <|
  (f_X12_railMany Γ M v0).bind fun r11 =>
  if 3 < r11 then
    (rhck (Γ.2.2.1 (M.2.2 v0 40) = 15) <|
    rhck (0 ≤ (3 : Int32).toInt ∧ (3 : Int32).toInt < (Γ.2.2.2 (M.2.2 v0 40) : Nat)) <|
    let M15 := rhsi M (M.2.2 v0 40) (3 : Int32).toNatClampNeg v2
    f_X12_layState_52 Γ M15 v0 v2 v3)
  else
    f_X12_layState_52 Γ M v0 v2 v3
def f_X12_layState (Γ : rhG) (M : rhM) (v0 : Nat) (v1 : Int32) : Option (rhM) :=
  rhck (Γ.2.2.1 v0 = 13) <|
  (f_X12_houseMany Γ M v0).bind fun r2 =>
  f_X12_layState_10 (f_X12_layState_37 Γ) Γ rhFU M v0 r2 v1 2
set_option maxHeartbeats 4000000 in
set_option maxRecDepth 100000 in
theorem b_X12_layState_10 {E : rhE} {Γ : rhG} {k37 : rhM → Nat → Int32 → Int32 → Option (rhM)} (hk37 : ∀ (M : rhM) (v0 : Nat) (v2 : Int32) (v3 : Int32), rhF E 5 8 yX12_layState cX12_layState none Γ (rhe1U Γ) (k37 M v0 v2 v3) 37 [(0, rhR v0), (2, rhI v2), (3, rhI v3)] [] Γ M) : ∀ (n : Nat) (M : rhM) (v0 : Nat) (v2 : Int32) (v3 : Int32) (v4 : Int32), rhF E 5 8 yX12_layState cX12_layState none Γ (rhe1U Γ) (f_X12_layState_10 k37 Γ n M v0 v2 v3 v4) 10 [(0, rhR v0), (2, rhI v2), (3, rhI v3), (4, rhI v4)] [] Γ M := by
  intro n
  induction n with
  | zero => intro M v0 v2 v3 v4; rw [f_X12_layState_10]; exact rhF.nope
  | succ n ih =>
    intro M v0 v2 v3 v4
    rw [f_X12_layState_10]
    refine rhF.iload (pc := 10) dX12_layState_10 3 rfl ?_
    refine rhF.if_lt (pc := 12) 37 dX12_layState_12 (by decide) (fun h3 => ?_) (fun h3 => ?_)
    · refine rhF.sub [0, 1, 2] rfl ?_
      exact hk37 _ _ _ _
    · refine rhF.aload_n (pc := 15) dX12_layState_15 0 rfl ?_
      refine rhF.ck (fun h4 => ?_)
      refine rhF.get (pc := 16) (rhR _) dX12_layState_16 fl_X12_95 h4 rfl ?_
      refine rhF.iload (pc := 19) dX12_layState_19 3 rfl ?_
      refine rhF.iload_n (pc := 21) dX12_layState_21 2 rfl ?_
      refine rhF.bipush (pc := 22) (v := 7) dX12_layState_22 (by decide) ?_
      refine rhF.iremc (pc := 24) dX12_layState_24 (by decide) ?_
      refine rhF.ck (fun h5 => ?_)
      refine rhF.ck (fun h6 => ?_)
      refine rhF.iast (pc := 25) dX12_layState_25 h5 h6 ?_
      refine rhF.iload_n (pc := 26) dX12_layState_26 2 rfl ?_
      refine rhF.bipush (pc := 27) (v := 7) dX12_layState_27 (by decide) ?_
      refine rhF.idivc (pc := 29) dX12_layState_29 (by decide) ?_
      refine rhF.istore_n (pc := 30) (L' := [(3, rhI _), (0, rhR _), (2, rhI _), (4, rhI _)]) dX12_layState_30 (by decide) rfl ?_
      refine rhF.iinc (pc := 31) (L' := [(4, rhI _), (3, rhI _), (0, rhR _), (2, rhI _)]) dX12_layState_31 3 rfl rfl (by decide) rfl ?_
      refine rhF.goto (pc := 34) 10 dX12_layState_34 (by decide) ?_
      refine rhF.sub [2, 3, 1, 0] rfl ?_
      exact ih _ _ _ _ _
set_option maxHeartbeats 4000000 in
set_option maxRecDepth 100000 in
theorem b_X12_layState_60 {E : rhE} {Γ : rhG} {k91 : rhM → Nat → Int32 → Int32 → Option (rhM)} (hk91 : ∀ (M : rhM) (v0 : Nat) (v2 : Int32) (v4 : Int32), rhF E 5 8 yX12_layState cX12_layState none Γ (rhe1U Γ) (k91 M v0 v2 v4) 91 [(0, rhR v0), (2, rhI v2), (4, rhI v4)] [] Γ M) : ∀ (n : Nat) (M : rhM) (v0 : Nat) (v2 : Int32) (v3 : Int32) (v4 : Int32) (v5 : Int32), rhF E 5 8 yX12_layState cX12_layState none Γ (rhe1U Γ) (f_X12_layState_60 k91 Γ n M v0 v2 v3 v4 v5) 60 [(0, rhR v0), (2, rhI v2), (3, rhI v3), (4, rhI v4), (5, rhI v5)] [] Γ M := by
  intro n
  induction n with
  | zero => intro M v0 v2 v3 v4 v5; rw [f_X12_layState_60]; exact rhF.nope
  | succ n ih =>
    intro M v0 v2 v3 v4 v5
    rw [f_X12_layState_60]
    refine rhF.iload (pc := 60) dX12_layState_60 4 rfl ?_
    refine rhF.if_lt (pc := 62) 91 dX12_layState_62 (by decide) (fun h17 => ?_) (fun h17 => ?_)
    · refine rhF.sub [0, 1, 3] rfl ?_
      exact hk91 _ _ _ _
    · refine rhF.aload_n (pc := 65) dX12_layState_65 0 rfl ?_
      refine rhF.ck (fun h18 => ?_)
      refine rhF.get (pc := 66) (rhR _) dX12_layState_66 fl_X12_98 h18 rfl ?_
      refine rhF.iload (pc := 69) dX12_layState_69 4 rfl ?_
      refine rhF.iload_n (pc := 71) dX12_layState_71 2 rfl ?_
      refine rhF.iload_n (pc := 72) dX12_layState_72 1 rfl ?_
      refine rhF.iload (pc := 73) dX12_layState_73 4 rfl ?_
      refine rhF.isub (pc := 75) dX12_layState_75 ?_
      refine rhF.ck (fun h19 => ?_)
      refine rhF.iremc (pc := 76) dX12_layState_76 h19 ?_
      refine rhF.ck (fun h20 => ?_)
      refine rhF.ck (fun h21 => ?_)
      refine rhF.iast (pc := 77) dX12_layState_77 h20 h21 ?_
      refine rhF.iload_n (pc := 78) dX12_layState_78 2 rfl ?_
      refine rhF.iload_n (pc := 79) dX12_layState_79 1 rfl ?_
      refine rhF.iload (pc := 80) dX12_layState_80 4 rfl ?_
      refine rhF.isub (pc := 82) dX12_layState_82 ?_
      refine rhF.ck (fun h23 => ?_)
      refine rhF.idivc (pc := 83) dX12_layState_83 h23 ?_
      refine rhF.istore_n (pc := 84) (L' := [(3, rhI _), (0, rhR _), (2, rhI _), (4, rhI _), (5, rhI _)]) dX12_layState_84 (by decide) rfl ?_
      refine rhF.iinc (pc := 85) (L' := [(5, rhI _), (3, rhI _), (0, rhR _), (2, rhI _), (4, rhI _)]) dX12_layState_85 4 rfl rfl (by decide) rfl ?_
      refine rhF.goto (pc := 88) 60 dX12_layState_88 (by decide) ?_
      refine rhF.sub [2, 3, 1, 4, 0] rfl ?_
      exact ih _ _ _ _ _ _
set_option maxHeartbeats 4000000 in
set_option maxRecDepth 100000 in
theorem b_X12_layState_146 {E : rhE} {Γ : rhG} {k112 : rhM → Nat → Int32 → Int32 → Int32 → Int32 → Int32 → Option (rhM)} (hk112 : ∀ (M : rhM) (v0 : Nat) (v2 : Int32) (v4 : Int32) (v5 : Int32) (v6 : Int32) (v7 : Int32), rhF E 5 8 yX12_layState cX12_layState none Γ (rhe1U Γ) (k112 M v0 v2 v4 v5 v6 v7) 112 [(0, rhR v0), (2, rhI v2), (4, rhI v4), (5, rhI v5), (6, rhI v6), (7, rhI v7)] [] Γ M) : ∀ (M : rhM) (v0 : Nat) (v2 : Int32) (v4 : Int32) (v5 : Int32) (v6 : Int32) (s0 : Int32) (s1 : Int32), rhF E 5 8 yX12_layState cX12_layState none Γ (rhe1U Γ) (f_X12_layState_146 k112 Γ M v0 v2 v4 v5 v6 s0 s1) 146 [(0, rhR v0), (2, rhI v2), (4, rhI v4), (5, rhI v5), (6, rhI v6)] [rhI s1, rhI s0] Γ M := by
  intro M v0 v2 v4 v5 v6 s0 s1
  rw [f_X12_layState_146]
  refine rhF.isub (pc := 146) dX12_layState_146 ?_
  refine rhF.istore (pc := 147) (L' := [(7, rhI _), (0, rhR _), (2, rhI _), (4, rhI _), (5, rhI _), (6, rhI _)]) dX12_layState_147 (by decide) rfl ?_
  refine rhF.iinc (pc := 149) (L' := [(6, rhI _), (7, rhI _), (0, rhR _), (2, rhI _), (4, rhI _), (5, rhI _)]) dX12_layState_149 5 rfl rfl (by decide) rfl ?_
  refine rhF.goto (pc := 152) 112 dX12_layState_152 (by decide) ?_
  refine rhF.sub [2, 3, 4, 5, 0, 1] rfl ?_
  exact hk112 _ _ _ _ _ _ _
set_option maxHeartbeats 4000000 in
set_option maxRecDepth 100000 in
theorem b_X12_layState_128 {E : rhE} {Γ : rhG} {k112 : rhM → Nat → Int32 → Int32 → Int32 → Int32 → Int32 → Option (rhM)} (hk112 : ∀ (M : rhM) (v0 : Nat) (v2 : Int32) (v4 : Int32) (v5 : Int32) (v6 : Int32) (v7 : Int32), rhF E 5 8 yX12_layState cX12_layState none Γ (rhe1U Γ) (k112 M v0 v2 v4 v5 v6 v7) 112 [(0, rhR v0), (2, rhI v2), (4, rhI v4), (5, rhI v5), (6, rhI v6), (7, rhI v7)] [] Γ M) : ∀ (M : rhM) (v0 : Nat) (v2 : Int32) (v4 : Int32) (v5 : Int32) (v6 : Int32) (v7 : Int32), rhF E 5 8 yX12_layState cX12_layState none Γ (rhe1U Γ) (f_X12_layState_128 k112 Γ M v0 v2 v4 v5 v6 v7) 128 [(0, rhR v0), (2, rhI v2), (4, rhI v4), (5, rhI v5), (6, rhI v6), (7, rhI v7)] [] Γ M := by
  intro M v0 v2 v4 v5 v6 v7
  rw [f_X12_layState_128]
  refine rhF.iload (pc := 128) dX12_layState_128 5 rfl ?_
  refine rhF.iload (pc := 130) dX12_layState_130 2 rfl ?_
  refine rhF.iload (pc := 132) dX12_layState_132 4 rfl ?_
  refine rhF.ishr (pc := 134) dX12_layState_134 ?_
  refine rhF.iconst (pc := 135) (v := 1) dX12_layState_135 (by decide) ?_
  refine rhF.iand (pc := 136) dX12_layState_136 ?_
  refine rhF.iconst (pc := 137) (v := 1) dX12_layState_137 (by decide) ?_
  refine rhF.icmp_ne (pc := 138) 145 dX12_layState_138 (by decide) (fun h32 => ?_) (fun h32 => ?_)
  · refine rhF.iconst (pc := 141) (v := 0) dX12_layState_141 (by decide) ?_
    refine rhF.goto (pc := 142) 146 dX12_layState_142 (by decide) ?_
    refine rhF.sub [0, 1, 2, 3, 4] rfl ?_
    exact (b_X12_layState_146 hk112) _ _ _ _ _ _ _ _
  · refine rhF.iconst (pc := 145) (v := 1) dX12_layState_145 (by decide) ?_
    refine rhF.sub [0, 1, 2, 3, 4] rfl ?_
    exact (b_X12_layState_146 hk112) _ _ _ _ _ _ _ _
set_option maxHeartbeats 4000000 in
set_option maxRecDepth 100000 in
theorem b_X12_layState_112 {E : rhE} {Γ : rhG} {k155 : rhM → Nat → Int32 → Int32 → Int32 → Int32 → Option (rhM)} (hk155 : ∀ (M : rhM) (v0 : Nat) (v2 : Int32) (v4 : Int32) (v5 : Int32) (v6 : Int32), rhF E 5 8 yX12_layState cX12_layState none Γ (rhe1U Γ) (k155 M v0 v2 v4 v5 v6) 155 [(0, rhR v0), (2, rhI v2), (4, rhI v4), (5, rhI v5), (6, rhI v6)] [] Γ M) : ∀ (n : Nat) (M : rhM) (v0 : Nat) (v2 : Int32) (v4 : Int32) (v5 : Int32) (v6 : Int32) (v7 : Int32), rhF E 5 8 yX12_layState cX12_layState none Γ (rhe1U Γ) (f_X12_layState_112 k155 Γ n M v0 v2 v4 v5 v6 v7) 112 [(0, rhR v0), (2, rhI v2), (4, rhI v4), (5, rhI v5), (6, rhI v6), (7, rhI v7)] [] Γ M := by
  intro n
  induction n with
  | zero => intro M v0 v2 v4 v5 v6 v7; rw [f_X12_layState_112]; exact rhF.nope
  | succ n ih =>
    intro M v0 v2 v4 v5 v6 v7
    rw [f_X12_layState_112]
    refine rhF.iload (pc := 112) dX12_layState_112 2 rfl ?_
    refine rhF.iload (pc := 114) dX12_layState_114 4 rfl ?_
    refine rhF.ishr (pc := 116) dX12_layState_116 ?_
    refine rhF.iconst (pc := 117) (v := 1) dX12_layState_117 (by decide) ?_
    refine rhF.iand (pc := 118) dX12_layState_118 ?_
    refine rhF.iconst (pc := 119) (v := 1) dX12_layState_119 (by decide) ?_
    refine rhF.icmp_eq (pc := 120) 128 dX12_layState_120 (by decide) (fun h31 => ?_) (fun h31 => ?_)
    · exact (b_X12_layState_128 ih) _ _ _ _ _ _ _
    · refine rhF.iload (pc := 123) dX12_layState_123 5 rfl ?_
      refine rhF.if_le (pc := 125) 155 dX12_layState_125 (by decide) (fun h35 => ?_) (fun h35 => ?_)
      · exact (b_X12_layState_128 ih) _ _ _ _ _ _ _
      · refine rhF.sub [0, 1, 2, 3, 4] rfl ?_
        exact hk155 _ _ _ _ _ _
set_option maxHeartbeats 4000000 in
set_option maxRecDepth 100000 in
theorem b_X12_layState_155 {E : rhE} {Γ : rhG} {k94 : rhM → Nat → Int32 → Int32 → Int32 → Option (rhM)} (hk94 : ∀ (M : rhM) (v0 : Nat) (v2 : Int32) (v4 : Int32) (v5 : Int32), rhF E 5 8 yX12_layState cX12_layState none Γ (rhe1U Γ) (k94 M v0 v2 v4 v5) 94 [(0, rhR v0), (2, rhI v2), (4, rhI v4), (5, rhI v5)] [] Γ M) : ∀ (M : rhM) (v0 : Nat) (v2 : Int32) (v4 : Int32) (v5 : Int32) (v6 : Int32), rhF E 5 8 yX12_layState cX12_layState none Γ (rhe1U Γ) (f_X12_layState_155 k94 Γ M v0 v2 v4 v5 v6) 155 [(0, rhR v0), (2, rhI v2), (4, rhI v4), (5, rhI v5), (6, rhI v6)] [] Γ M := by
  intro M v0 v2 v4 v5 v6
  rw [f_X12_layState_155]
  refine rhF.aload_n (pc := 155) dX12_layState_155 0 rfl ?_
  refine rhF.ck (fun h36 => ?_)
  refine rhF.get (pc := 156) (rhR _) dX12_layState_156 fl_X12_92 h36 rfl ?_
  refine rhF.iload (pc := 159) dX12_layState_159 3 rfl ?_
  refine rhF.iload (pc := 161) dX12_layState_161 4 rfl ?_
  refine rhF.ck (fun h37 => ?_)
  refine rhF.ck (fun h38 => ?_)
  refine rhF.iast (pc := 163) dX12_layState_163 h37 h38 ?_
  refine rhF.iload (pc := 164) dX12_layState_164 2 rfl ?_
  refine rhF.iconst (pc := 166) (v := 1) dX12_layState_166 (by decide) ?_
  refine rhF.iload (pc := 167) dX12_layState_167 4 rfl ?_
  refine rhF.ishl (pc := 169) dX12_layState_169 ?_
  refine rhF.ior (pc := 170) dX12_layState_170 ?_
  refine rhF.istore (pc := 171) (L' := [(4, rhI _), (0, rhR _), (2, rhI _), (5, rhI _), (6, rhI _)]) dX12_layState_171 (by decide) rfl ?_
  refine rhF.iinc (pc := 173) (L' := [(5, rhI _), (4, rhI _), (0, rhR _), (2, rhI _), (6, rhI _)]) dX12_layState_173 3 rfl rfl (by decide) rfl ?_
  refine rhF.goto (pc := 176) 94 dX12_layState_176 (by decide) ?_
  refine rhF.sub [2, 3, 1, 0] rfl ?_
  exact hk94 _ _ _ _ _
set_option maxHeartbeats 4000000 in
set_option maxRecDepth 100000 in
theorem b_X12_layState_94 {E : rhE} {Γ : rhG} : ∀ (n : Nat) (M : rhM) (v0 : Nat) (v2 : Int32) (v4 : Int32) (v5 : Int32), rhF E 5 8 yX12_layState cX12_layState none Γ (rhe1U Γ) (f_X12_layState_94 Γ n M v0 v2 v4 v5) 94 [(0, rhR v0), (2, rhI v2), (4, rhI v4), (5, rhI v5)] [] Γ M := by
  intro n
  induction n with
  | zero => intro M v0 v2 v4 v5; rw [f_X12_layState_94]; exact rhF.nope
  | succ n ih =>
    intro M v0 v2 v4 v5
    rw [f_X12_layState_94]
    refine rhF.iload (pc := 94) dX12_layState_94 3 rfl ?_
    refine rhF.iload_n (pc := 96) dX12_layState_96 1 rfl ?_
    refine rhF.icmp_ge (pc := 97) 179 dX12_layState_97 (by decide) (fun h26 => ?_) (fun h26 => ?_)
    · refine rhF.iconst (pc := 100) (v := 0) dX12_layState_100 (by decide) ?_
      refine rhF.istore (pc := 101) (L' := [(6, rhI _), (0, rhR _), (2, rhI _), (4, rhI _), (5, rhI _)]) dX12_layState_101 (by decide) rfl ?_
      refine rhF.aload_n (pc := 103) dX12_layState_103 1 rfl ?_
      refine rhF.ck (fun h27 => ?_)
      refine rhF.get (pc := 104) (rhR _) dX12_layState_104 fl_X12_98 h27 rfl ?_
      refine rhF.iload (pc := 107) dX12_layState_107 4 rfl ?_
      refine rhF.ck (fun h28 => ?_)
      refine rhF.ck (fun h29 => ?_)
      refine rhF.iald (pc := 109) dX12_layState_109 h28 h29 ?_
      refine rhF.istore (pc := 110) (L' := [(7, rhI _), (6, rhI _), (0, rhR _), (2, rhI _), (4, rhI _), (5, rhI _)]) dX12_layState_110 (by decide) rfl ?_
      refine rhF.sub [2, 3, 4, 5, 1, 0] rfl ?_
      exact (b_X12_layState_112 (b_X12_layState_155 ih) rhFU) _ _ _ _ _ _ _
    · exact rhF.vret (pc := 179) dX12_layState_179 rfl rfl
set_option maxHeartbeats 4000000 in
set_option maxRecDepth 100000 in
theorem b_X12_layState_91 {E : rhE} {Γ : rhG} : ∀ (M : rhM) (v0 : Nat) (v2 : Int32) (v4 : Int32), rhF E 5 8 yX12_layState cX12_layState none Γ (rhe1U Γ) (f_X12_layState_91 Γ M v0 v2 v4) 91 [(0, rhR v0), (2, rhI v2), (4, rhI v4)] [] Γ M := by
  intro M v0 v2 v4
  rw [f_X12_layState_91]
  refine rhF.iconst (pc := 91) (v := 0) dX12_layState_91 (by decide) ?_
  refine rhF.istore (pc := 92) (L' := [(5, rhI _), (0, rhR _), (2, rhI _), (4, rhI _)]) dX12_layState_92 (by decide) rfl ?_
  refine rhF.sub [1, 2, 3, 0] rfl ?_
  exact (b_X12_layState_94 rhFU) _ _ _ _ _
set_option maxHeartbeats 4000000 in
set_option maxRecDepth 100000 in
theorem b_X12_layState_52 {E : rhE} {Γ : rhG} : ∀ (M : rhM) (v0 : Nat) (v2 : Int32) (v3 : Int32), rhF E 5 8 yX12_layState cX12_layState none Γ (rhe1U Γ) (f_X12_layState_52 Γ M v0 v2 v3) 52 [(0, rhR v0), (2, rhI v2), (3, rhI v3)] [] Γ M := by
  intro M v0 v2 v3
  rw [f_X12_layState_52]
  refine rhF.iconst (pc := 52) (v := 0) dX12_layState_52 (by decide) ?_
  refine rhF.istore (pc := 53) (L' := [(4, rhI _), (0, rhR _), (2, rhI _), (3, rhI _)]) dX12_layState_53 (by decide) rfl ?_
  refine rhF.iload_n (pc := 55) dX12_layState_55 2 rfl ?_
  refine rhF.iconst (pc := 56) (v := 1) dX12_layState_56 (by decide) ?_
  refine rhF.isub (pc := 57) dX12_layState_57 ?_
  refine rhF.istore (pc := 58) (L' := [(5, rhI _), (4, rhI _), (0, rhR _), (2, rhI _), (3, rhI _)]) dX12_layState_58 (by decide) rfl ?_
  refine rhF.sub [2, 3, 4, 1, 0] rfl ?_
  exact (b_X12_layState_60 (b_X12_layState_91) rhFU) _ _ _ _ _ _
set_option maxHeartbeats 4000000 in
set_option maxRecDepth 100000 in
theorem b_X12_layState_37 {E : rhE} {Γ : rhG} : ∀ (M : rhM) (v0 : Nat) (v2 : Int32) (v3 : Int32), rhF E 5 8 yX12_layState cX12_layState none Γ (rhe1U Γ) (f_X12_layState_37 Γ M v0 v2 v3) 37 [(0, rhR v0), (2, rhI v2), (3, rhI v3)] [] Γ M := by
  intro M v0 v2 v3
  rw [f_X12_layState_37]
  refine rhF.aload_n (pc := 37) dX12_layState_37 0 rfl ?_
  refine rhF.ck (fun h10 => ?_)
  refine rhF.callV (pc := 38) (ci := 12) (embc := rhe0I _ _) [] dX12_layState_38 ml_X12_412 mv_X12_railMany ⟨_, rfl, rfl⟩ h10 (c_X12_railMany _ _ _ _) (by decide) (by decide) rfl (Nat.le_of_ble_eq_true rfl) (fun r11 _ => ?_)
  refine rhF.iconst (pc := 41) (v := 3) dX12_layState_41 (by decide) ?_
  refine rhF.icmp_le (pc := 42) 52 dX12_layState_42 (by decide) (fun h12 => ?_) (fun h12 => ?_)
  · refine rhF.aload_n (pc := 45) dX12_layState_45 0 rfl ?_
    refine rhF.get (pc := 46) (rhR _) dX12_layState_46 fl_X12_95 h10 rfl ?_
    refine rhF.iconst (pc := 49) (v := 3) dX12_layState_49 (by decide) ?_
    refine rhF.iload_n (pc := 50) dX12_layState_50 1 rfl ?_
    refine rhF.ck (fun h13 => ?_)
    refine rhF.ck (fun h14 => ?_)
    refine rhF.iast (pc := 51) dX12_layState_51 h13 h14 ?_
    exact (b_X12_layState_52) _ _ _ _
  · exact (b_X12_layState_52) _ _ _ _
set_option maxHeartbeats 4000000 in
set_option maxRecDepth 100000 in
theorem b_X12_layState {E : rhE} {Γ : rhG} : ∀ (M : rhM) (v0 : Nat) (v1 : Int32), rhF E 5 8 yX12_layState cX12_layState none Γ (rhe1U Γ) (f_X12_layState Γ M v0 v1) 0 [(0, rhR v0), (1, rhI v1)] [] Γ M := by
  intro M v0 v1
  rw [f_X12_layState]
  refine rhF.aload_n (pc := 0) dX12_layState_0 0 rfl ?_
  refine rhF.ck (fun h1 => ?_)
  refine rhF.callV (pc := 1) (ci := 12) (embc := rhe0I _ _) [] dX12_layState_1 ml_X12_419 mv_X12_houseMany ⟨_, rfl, rfl⟩ h1 (c_X12_houseMany _ _ _ _) (by decide) (by decide) rfl (Nat.le_of_ble_eq_true rfl) (fun r2 _ => ?_)
  refine rhF.istore_n (pc := 4) (L' := [(2, rhI _), (0, rhR _), (1, rhI _)]) dX12_layState_4 (by decide) rfl ?_
  refine rhF.iload_n (pc := 5) dX12_layState_5 2 rfl ?_
  refine rhF.istore_n (pc := 6) (L' := [(3, rhI _), (2, rhI _), (0, rhR _), (1, rhI _)]) dX12_layState_6 (by decide) rfl ?_
  refine rhF.iconst (pc := 7) (v := 2) dX12_layState_7 (by decide) ?_
  refine rhF.istore (pc := 8) (L' := [(4, rhI _), (3, rhI _), (2, rhI _), (0, rhR _), (1, rhI _)]) dX12_layState_8 (by decide) rfl ?_
  refine rhF.sub [3, 2, 1, 0] rfl ?_
  exact (b_X12_layState_10 (b_X12_layState_37) rhFU) _ _ _ _ _
theorem c_X12_layState (E : rhE) (Γ : rhG) (M : rhM) (v0 : Nat) (v1 : Int32) : ∀ a, f_X12_layState Γ M v0 v1 = some a → rhC E 5 yX12_layState cX12_layState 8 none [rhR v0, rhI v1] Γ M ((rhe1U Γ) a) := rhF.met (by decide +kernel) (Nat.le_of_ble_eq_true rfl) (b_X12_layState M v0 v1)
def f_X12_moves_13 (k42 : rhM → Nat → Int32 → Int32 → Int32 → Int32 → Option (rhM)) (Γ : rhG) : Nat → rhM → Nat → Int32 → Int32 → Int32 → Int32 → Int32 → Option (rhM)
  | 0, _, _, _, _, _, _, _ => none
  | n + 1, M, v0, v1, v2, v3, v4, v5 =>
    if v5 < v2 then
      (rhck (Γ.2.2.1 v0 = 13) <|
      rhck (Γ.2.2.1 (M.2.2 v0 39) = 15) <|
      rhck (0 ≤ (v4 + v5).toInt ∧ (v4 + v5).toInt < (Γ.2.2.2 (M.2.2 v0 39) : Nat)) <|
      rhck (Γ.2.2.1 (M.2.2 v0 41) = 15) <|
      rhck (0 ≤ (v5).toInt ∧ (v5).toInt < (Γ.2.2.2 (M.2.2 v0 41) : Nat)) <|
      let M11 := rhsi M (M.2.2 v0 41) (v5 : Int32).toNatClampNeg (M.1 (M.2.2 v0 39) (v4 + v5).toNatClampNeg)
      let x12 : Int32 := v5 + 1
      f_X12_moves_13 k42 Γ n M11 v0 v1 v2 v3 v4 x12)
    else
      k42 M v0 v1 v2 v3 v4
def f_X12_moves_51 (k86 : rhM → Nat → Int32 → Int32 → Int32 → Option (rhM)) (Γ : rhG) : Nat → rhM → Nat → Int32 → Int32 → Int32 → Int32 → Option (rhM)
  | 0, _, _, _, _, _, _ => none
  | n + 1, M, v0, v1, v2, v3, v5 =>
    rhck (Γ.2.2.1 v0 = 13) <|
    rhck (Γ.2.2.1 (M.2.2 v0 40) = 15) <|
    rhck (0 ≤ (v3).toInt ∧ (v3).toInt < (Γ.2.2.2 (M.2.2 v0 40) : Nat)) <|
    if (v5 + v2) < (M.1 (M.2.2 v0 40) v3.toNatClampNeg) then
      (rhck (Γ.2.2.1 (M.2.2 v0 39) = 15) <|
      rhck (0 ≤ (v5 + v2).toInt ∧ (v5 + v2).toInt < (Γ.2.2.2 (M.2.2 v0 39) : Nat)) <|
      rhck (0 ≤ (v5).toInt ∧ (v5).toInt < (Γ.2.2.2 (M.2.2 v0 39) : Nat)) <|
      let M21 := rhsi M (M.2.2 v0 39) (v5 : Int32).toNatClampNeg (M.1 (M.2.2 v0 39) (v5 + v2).toNatClampNeg)
      let x22 : Int32 := v5 + 1
      f_X12_moves_51 k86 Γ n M21 v0 v1 v2 v3 x22)
    else
      k86 M v0 v1 v2 v3
def f_X12_moves_89 (k112 : rhM → Nat → Int32 → Int32 → Option (rhM)) (Γ : rhG) : Nat → rhM → Nat → Int32 → Int32 → Int32 → Option (rhM)
  | 0, _, _, _, _, _ => none
  | n + 1, M, v0, v2, v3, v5 =>
    if v5 < v3 then
      (rhck (Γ.2.2.1 v0 = 13) <|
      rhck (Γ.2.2.1 (M.2.2 v0 40) = 15) <|
      rhck (0 ≤ (v5).toInt ∧ (v5).toInt < (Γ.2.2.2 (M.2.2 v0 40) : Nat)) <|
      let M27 := rhsi M (M.2.2 v0 40) (v5 : Int32).toNatClampNeg ((M.1 (M.2.2 v0 40) v5.toNatClampNeg) - v2)
      let x28 : Int32 := v5 + 1
      f_X12_moves_89 k112 Γ n M27 v0 v2 v3 x28)
    else
      k112 M v0 v2 v3
def f_X12_moves_112 (k180 : rhM → Nat → Int32 → Int32 → Option (rhM)) (Γ : rhG) (M : rhM) (v0 : Nat) (v2 : Int32) (v3 : Int32) : Option (rhM) :=
  k180 M v0 v2 v3
def f_X12_moves_86 (k180 : rhM → Nat → Int32 → Int32 → Option (rhM)) (Γ : rhG) (M : rhM) (v0 : Nat) (v1 : Int32) (v2 : Int32) (v3 : Int32) : Option (rhM) :=
  f_X12_moves_89 (f_X12_moves_112 k180 Γ) Γ rhFU M v0 v2 v3 v1
def f_X12_moves_183 (Γ : rhG) : Nat → rhM → Nat → Int32 → Int32 → Int32 → Option (rhM)
  | 0, _, _, _, _, _ => none
  | n + 1, M, v0, v2, v3, v5 =>
    if v5 < v2 then
      (rhck (Γ.2.2.1 v0 = 13) <|
      rhck (Γ.2.2.1 (M.2.2 v0 40) = 15) <|
      rhck (0 ≤ (v3).toInt ∧ (v3).toInt < (Γ.2.2.2 (M.2.2 v0 40) : Nat)) <|
      rhck (Γ.2.2.1 (M.2.2 v0 41) = 15) <|
      rhck (0 ≤ (v5).toInt ∧ (v5).toInt < (Γ.2.2.2 (M.2.2 v0 41) : Nat)) <|
      rhck (Γ.2.2.1 (M.2.2 v0 39) = 15) <|
      rhck (0 ≤ (((M.1 (M.2.2 v0 40) v3.toNatClampNeg) - v2) + v5).toInt ∧ (((M.1 (M.2.2 v0 40) v3.toNatClampNeg) - v2) + v5).toInt < (Γ.2.2.2 (M.2.2 v0 39) : Nat)) <|
      let M37 := rhsi M (M.2.2 v0 39) (((M.1 (M.2.2 v0 40) v3.toNatClampNeg) - v2) + v5 : Int32).toNatClampNeg (M.1 (M.2.2 v0 41) v5.toNatClampNeg)
      let x38 : Int32 := v5 + 1
      f_X12_moves_183 Γ n M37 v0 v2 v3 x38)
    else
      some M
def f_X12_moves_180 (Γ : rhG) (M : rhM) (v0 : Nat) (v2 : Int32) (v3 : Int32) : Option (rhM) :=
  f_X12_moves_183 Γ rhFU M v0 v2 v3 0
def f_X12_moves_121 (k154 : rhM → Nat → Int32 → Int32 → Int32 → Option (rhM)) (Γ : rhG) : Nat → rhM → Nat → Int32 → Int32 → Int32 → Int32 → Option (rhM)
  | 0, _, _, _, _, _, _ => none
  | n + 1, M, v0, v1, v2, v3, v5 =>
    rhck (Γ.2.2.1 v0 = 13) <|
    rhck (Γ.2.2.1 (M.2.2 v0 40) = 15) <|
    rhck (0 ≤ (v3).toInt ∧ (v3).toInt < (Γ.2.2.2 (M.2.2 v0 40) : Nat)) <|
    if v5 < (M.1 (M.2.2 v0 40) v3.toNatClampNeg) then
      (k154 M v0 v1 v2 v3)
    else
      rhck (Γ.2.2.1 (M.2.2 v0 39) = 15) <|
      rhck (0 ≤ (v5).toInt ∧ (v5).toInt < (Γ.2.2.2 (M.2.2 v0 39) : Nat)) <|
      rhck (0 ≤ (v5 + v2).toInt ∧ (v5 + v2).toInt < (Γ.2.2.2 (M.2.2 v0 39) : Nat)) <|
      let M47 := rhsi M (M.2.2 v0 39) (v5 + v2 : Int32).toNatClampNeg (M.1 (M.2.2 v0 39) v5.toNatClampNeg)
      let x48 : Int32 := v5 + (-1)
      f_X12_moves_121 k154 Γ n M47 v0 v1 v2 v3 x48
def f_X12_moves_157 (k180 : rhM → Nat → Int32 → Int32 → Option (rhM)) (Γ : rhG) : Nat → rhM → Nat → Int32 → Int32 → Int32 → Int32 → Option (rhM)
  | 0, _, _, _, _, _, _ => none
  | n + 1, M, v0, v1, v2, v3, v5 =>
    if v5 < v1 then
      (rhck (Γ.2.2.1 v0 = 13) <|
      rhck (Γ.2.2.1 (M.2.2 v0 40) = 15) <|
      rhck (0 ≤ (v5).toInt ∧ (v5).toInt < (Γ.2.2.2 (M.2.2 v0 40) : Nat)) <|
      let M53 := rhsi M (M.2.2 v0 40) (v5 : Int32).toNatClampNeg ((M.1 (M.2.2 v0 40) v5.toNatClampNeg) + v2)
      let x54 : Int32 := v5 + 1
      f_X12_moves_157 k180 Γ n M53 v0 v1 v2 v3 x54)
    else
      k180 M v0 v2 v3
def f_X12_moves_154 (k180 : rhM → Nat → Int32 → Int32 → Option (rhM)) (Γ : rhG) (M : rhM) (v0 : Nat) (v1 : Int32) (v2 : Int32) (v3 : Int32) : Option (rhM) :=
  f_X12_moves_157 k180 Γ rhFU M v0 v1 v2 v3 v3
def f_X12_moves_42 (Γ : rhG) (M : rhM) (v0 : Nat) (v1 : Int32) (v2 : Int32) (v3 : Int32) (v4 : Int32) : Option (rhM) :=
  if v1 < v3 then
    (f_X12_moves_51 (f_X12_moves_86 (f_X12_moves_180 Γ) Γ) Γ rhFU M v0 v1 v2 v3 v4)
  else
    let x39 := v4 - 1
    f_X12_moves_121 (f_X12_moves_154 (f_X12_moves_180 Γ) Γ) Γ rhFU M v0 v1 v2 v3 x39
def f_X12_moves (Γ : rhG) (M : rhM) (v0 : Nat) (v1 : Int32) (v2 : Int32) (v3 : Int32) : Option (rhM) :=
  rhck (Γ.2.2.1 v0 = 13) <|
  rhck (Γ.2.2.1 (M.2.2 v0 40) = 15) <|
  rhck (0 ≤ (v1).toInt ∧ (v1).toInt < (Γ.2.2.2 (M.2.2 v0 40) : Nat)) <|
  let x4 := (M.1 (M.2.2 v0 40) v1.toNatClampNeg) - v2
  f_X12_moves_13 (f_X12_moves_42 Γ) Γ rhFU M v0 v1 v2 v3 x4 0
set_option maxHeartbeats 4000000 in
set_option maxRecDepth 100000 in
theorem b_X12_moves_13 {E : rhE} {Γ : rhG} {k42 : rhM → Nat → Int32 → Int32 → Int32 → Int32 → Option (rhM)} (hk42 : ∀ (M : rhM) (v0 : Nat) (v1 : Int32) (v2 : Int32) (v3 : Int32) (v4 : Int32), rhF E 1 6 yX12_moves cX12_moves none Γ (rhe1U Γ) (k42 M v0 v1 v2 v3 v4) 42 [(0, rhR v0), (1, rhI v1), (2, rhI v2), (3, rhI v3), (4, rhI v4)] [] Γ M) : ∀ (n : Nat) (M : rhM) (v0 : Nat) (v1 : Int32) (v2 : Int32) (v3 : Int32) (v4 : Int32) (v5 : Int32), rhF E 1 6 yX12_moves cX12_moves none Γ (rhe1U Γ) (f_X12_moves_13 k42 Γ n M v0 v1 v2 v3 v4 v5) 13 [(0, rhR v0), (1, rhI v1), (2, rhI v2), (3, rhI v3), (4, rhI v4), (5, rhI v5)] [] Γ M := by
  intro n
  induction n with
  | zero => intro M v0 v1 v2 v3 v4 v5; rw [f_X12_moves_13]; exact rhF.nope
  | succ n ih =>
    intro M v0 v1 v2 v3 v4 v5
    rw [f_X12_moves_13]
    refine rhF.iload (pc := 13) dX12_moves_13 5 rfl ?_
    refine rhF.iload_n (pc := 15) dX12_moves_15 2 rfl ?_
    refine rhF.icmp_ge (pc := 16) 42 dX12_moves_16 (by decide) (fun h5 => ?_) (fun h5 => ?_)
    · refine rhF.aload_n (pc := 19) dX12_moves_19 0 rfl ?_
      refine rhF.ck (fun h6 => ?_)
      refine rhF.get (pc := 20) (rhR _) dX12_moves_20 fl_X12_98 h6 rfl ?_
      refine rhF.iload (pc := 23) dX12_moves_23 5 rfl ?_
      refine rhF.aload_n (pc := 25) dX12_moves_25 0 rfl ?_
      refine rhF.get (pc := 26) (rhR _) dX12_moves_26 fl_X12_92 h6 rfl ?_
      refine rhF.iload (pc := 29) dX12_moves_29 4 rfl ?_
      refine rhF.iload (pc := 31) dX12_moves_31 5 rfl ?_
      refine rhF.iadd (pc := 33) dX12_moves_33 ?_
      refine rhF.ck (fun h7 => ?_)
      refine rhF.ck (fun h8 => ?_)
      refine rhF.iald (pc := 34) dX12_moves_34 h7 h8 ?_
      refine rhF.ck (fun h9 => ?_)
      refine rhF.ck (fun h10 => ?_)
      refine rhF.iast (pc := 35) dX12_moves_35 h9 h10 ?_
      refine rhF.iinc (pc := 36) (L' := [(5, rhI _), (0, rhR _), (1, rhI _), (2, rhI _), (3, rhI _), (4, rhI _)]) dX12_moves_36 5 rfl rfl (by decide) rfl ?_
      refine rhF.goto (pc := 39) 13 dX12_moves_39 (by decide) ?_
      refine rhF.sub [1, 2, 3, 4, 5, 0] rfl ?_
      exact ih _ _ _ _ _ _ _
    · refine rhF.sub [0, 1, 2, 3, 4] rfl ?_
      exact hk42 _ _ _ _ _ _
set_option maxHeartbeats 4000000 in
set_option maxRecDepth 100000 in
theorem b_X12_moves_51 {E : rhE} {Γ : rhG} {k86 : rhM → Nat → Int32 → Int32 → Int32 → Option (rhM)} (hk86 : ∀ (M : rhM) (v0 : Nat) (v1 : Int32) (v2 : Int32) (v3 : Int32), rhF E 1 6 yX12_moves cX12_moves none Γ (rhe1U Γ) (k86 M v0 v1 v2 v3) 86 [(0, rhR v0), (1, rhI v1), (2, rhI v2), (3, rhI v3)] [] Γ M) : ∀ (n : Nat) (M : rhM) (v0 : Nat) (v1 : Int32) (v2 : Int32) (v3 : Int32) (v5 : Int32), rhF E 1 6 yX12_moves cX12_moves none Γ (rhe1U Γ) (f_X12_moves_51 k86 Γ n M v0 v1 v2 v3 v5) 51 [(0, rhR v0), (1, rhI v1), (2, rhI v2), (3, rhI v3), (5, rhI v5)] [] Γ M := by
  intro n
  induction n with
  | zero => intro M v0 v1 v2 v3 v5; rw [f_X12_moves_51]; exact rhF.nope
  | succ n ih =>
    intro M v0 v1 v2 v3 v5
    rw [f_X12_moves_51]
    refine rhF.iload (pc := 51) dX12_moves_51 4 rfl ?_
    refine rhF.iload_n (pc := 53) dX12_moves_53 2 rfl ?_
    refine rhF.iadd (pc := 54) dX12_moves_54 ?_
    refine rhF.aload_n (pc := 55) dX12_moves_55 0 rfl ?_
    refine rhF.ck (fun h14 => ?_)
    refine rhF.get (pc := 56) (rhR _) dX12_moves_56 fl_X12_95 h14 rfl ?_
    refine rhF.iload_n (pc := 59) dX12_moves_59 3 rfl ?_
    refine rhF.ck (fun h15 => ?_)
    refine rhF.ck (fun h16 => ?_)
    refine rhF.iald (pc := 60) dX12_moves_60 h15 h16 ?_
    refine rhF.icmp_ge (pc := 61) 86 dX12_moves_61 (by decide) (fun h17 => ?_) (fun h17 => ?_)
    · refine rhF.aload_n (pc := 64) dX12_moves_64 0 rfl ?_
      refine rhF.get (pc := 65) (rhR _) dX12_moves_65 fl_X12_92 h14 rfl ?_
      refine rhF.iload (pc := 68) dX12_moves_68 4 rfl ?_
      refine rhF.aload_n (pc := 70) dX12_moves_70 0 rfl ?_
      refine rhF.get (pc := 71) (rhR _) dX12_moves_71 fl_X12_92 h14 rfl ?_
      refine rhF.iload (pc := 74) dX12_moves_74 4 rfl ?_
      refine rhF.iload_n (pc := 76) dX12_moves_76 2 rfl ?_
      refine rhF.iadd (pc := 77) dX12_moves_77 ?_
      refine rhF.ck (fun h18 => ?_)
      refine rhF.ck (fun h19 => ?_)
      refine rhF.iald (pc := 78) dX12_moves_78 h18 h19 ?_
      refine rhF.ck (fun h20 => ?_)
      refine rhF.iast (pc := 79) dX12_moves_79 h18 h20 ?_
      refine rhF.iinc (pc := 80) (L' := [(5, rhI _), (0, rhR _), (1, rhI _), (2, rhI _), (3, rhI _)]) dX12_moves_80 4 rfl rfl (by decide) rfl ?_
      refine rhF.goto (pc := 83) 51 dX12_moves_83 (by decide) ?_
      refine rhF.sub [1, 2, 3, 4, 0] rfl ?_
      exact ih _ _ _ _ _ _
    · refine rhF.sub [0, 1, 2, 3] rfl ?_
      exact hk86 _ _ _ _ _
set_option maxHeartbeats 4000000 in
set_option maxRecDepth 100000 in
theorem b_X12_moves_89 {E : rhE} {Γ : rhG} {k112 : rhM → Nat → Int32 → Int32 → Option (rhM)} (hk112 : ∀ (M : rhM) (v0 : Nat) (v2 : Int32) (v3 : Int32), rhF E 1 6 yX12_moves cX12_moves none Γ (rhe1U Γ) (k112 M v0 v2 v3) 112 [(0, rhR v0), (2, rhI v2), (3, rhI v3)] [] Γ M) : ∀ (n : Nat) (M : rhM) (v0 : Nat) (v2 : Int32) (v3 : Int32) (v5 : Int32), rhF E 1 6 yX12_moves cX12_moves none Γ (rhe1U Γ) (f_X12_moves_89 k112 Γ n M v0 v2 v3 v5) 89 [(0, rhR v0), (2, rhI v2), (3, rhI v3), (5, rhI v5)] [] Γ M := by
  intro n
  induction n with
  | zero => intro M v0 v2 v3 v5; rw [f_X12_moves_89]; exact rhF.nope
  | succ n ih =>
    intro M v0 v2 v3 v5
    rw [f_X12_moves_89]
    refine rhF.iload (pc := 89) dX12_moves_89 3 rfl ?_
    refine rhF.iload_n (pc := 91) dX12_moves_91 2 rfl ?_
    refine rhF.icmp_ge (pc := 92) 112 dX12_moves_92 (by decide) (fun h23 => ?_) (fun h23 => ?_)
    · refine rhF.aload_n (pc := 95) dX12_moves_95 0 rfl ?_
      refine rhF.ck (fun h24 => ?_)
      refine rhF.get (pc := 96) (rhR _) dX12_moves_96 fl_X12_95 h24 rfl ?_
      refine rhF.iload (pc := 99) dX12_moves_99 3 rfl ?_
      refine rhF.dup2ri (pc := 101) dX12_moves_101 ?_
      refine rhF.ck (fun h25 => ?_)
      refine rhF.ck (fun h26 => ?_)
      refine rhF.iald (pc := 102) dX12_moves_102 h25 h26 ?_
      refine rhF.iload_n (pc := 103) dX12_moves_103 1 rfl ?_
      refine rhF.isub (pc := 104) dX12_moves_104 ?_
      refine rhF.iast (pc := 105) dX12_moves_105 h25 h26 ?_
      refine rhF.iinc (pc := 106) (L' := [(5, rhI _), (0, rhR _), (2, rhI _), (3, rhI _)]) dX12_moves_106 3 rfl rfl (by decide) rfl ?_
      refine rhF.goto (pc := 109) 89 dX12_moves_109 (by decide) ?_
      refine rhF.sub [1, 2, 3, 0] rfl ?_
      exact ih _ _ _ _ _
    · refine rhF.sub [0, 1, 2] rfl ?_
      exact hk112 _ _ _ _
set_option maxHeartbeats 4000000 in
set_option maxRecDepth 100000 in
theorem b_X12_moves_112 {E : rhE} {Γ : rhG} {k180 : rhM → Nat → Int32 → Int32 → Option (rhM)} (hk180 : ∀ (M : rhM) (v0 : Nat) (v2 : Int32) (v3 : Int32), rhF E 1 6 yX12_moves cX12_moves none Γ (rhe1U Γ) (k180 M v0 v2 v3) 180 [(0, rhR v0), (2, rhI v2), (3, rhI v3)] [] Γ M) : ∀ (M : rhM) (v0 : Nat) (v2 : Int32) (v3 : Int32), rhF E 1 6 yX12_moves cX12_moves none Γ (rhe1U Γ) (f_X12_moves_112 k180 Γ M v0 v2 v3) 112 [(0, rhR v0), (2, rhI v2), (3, rhI v3)] [] Γ M := by
  intro M v0 v2 v3
  rw [f_X12_moves_112]
  refine rhF.goto (pc := 112) 180 dX12_moves_112 (by decide) ?_
  exact hk180 _ _ _ _
set_option maxHeartbeats 4000000 in
set_option maxRecDepth 100000 in
theorem b_X12_moves_86 {E : rhE} {Γ : rhG} {k180 : rhM → Nat → Int32 → Int32 → Option (rhM)} (hk180 : ∀ (M : rhM) (v0 : Nat) (v2 : Int32) (v3 : Int32), rhF E 1 6 yX12_moves cX12_moves none Γ (rhe1U Γ) (k180 M v0 v2 v3) 180 [(0, rhR v0), (2, rhI v2), (3, rhI v3)] [] Γ M) : ∀ (M : rhM) (v0 : Nat) (v1 : Int32) (v2 : Int32) (v3 : Int32), rhF E 1 6 yX12_moves cX12_moves none Γ (rhe1U Γ) (f_X12_moves_86 k180 Γ M v0 v1 v2 v3) 86 [(0, rhR v0), (1, rhI v1), (2, rhI v2), (3, rhI v3)] [] Γ M := by
  intro M v0 v1 v2 v3
  rw [f_X12_moves_86]
  refine rhF.iload_n (pc := 86) dX12_moves_86 1 rfl ?_
  refine rhF.istore (pc := 87) (L' := [(5, rhI _), (0, rhR _), (1, rhI _), (2, rhI _), (3, rhI _)]) dX12_moves_87 (by decide) rfl ?_
  refine rhF.sub [1, 3, 4, 0] rfl ?_
  exact (b_X12_moves_89 (b_X12_moves_112 hk180) rhFU) _ _ _ _ _
set_option maxHeartbeats 4000000 in
set_option maxRecDepth 100000 in
theorem b_X12_moves_183 {E : rhE} {Γ : rhG} : ∀ (n : Nat) (M : rhM) (v0 : Nat) (v2 : Int32) (v3 : Int32) (v5 : Int32), rhF E 1 6 yX12_moves cX12_moves none Γ (rhe1U Γ) (f_X12_moves_183 Γ n M v0 v2 v3 v5) 183 [(0, rhR v0), (2, rhI v2), (3, rhI v3), (5, rhI v5)] [] Γ M := by
  intro n
  induction n with
  | zero => intro M v0 v2 v3 v5; rw [f_X12_moves_183]; exact rhF.nope
  | succ n ih =>
    intro M v0 v2 v3 v5
    rw [f_X12_moves_183]
    refine rhF.iload (pc := 183) dX12_moves_183 3 rfl ?_
    refine rhF.iload_n (pc := 185) dX12_moves_185 1 rfl ?_
    refine rhF.icmp_ge (pc := 186) 218 dX12_moves_186 (by decide) (fun h29 => ?_) (fun h29 => ?_)
    · refine rhF.aload_n (pc := 189) dX12_moves_189 0 rfl ?_
      refine rhF.ck (fun h30 => ?_)
      refine rhF.get (pc := 190) (rhR _) dX12_moves_190 fl_X12_92 h30 rfl ?_
      refine rhF.aload_n (pc := 193) dX12_moves_193 0 rfl ?_
      refine rhF.get (pc := 194) (rhR _) dX12_moves_194 fl_X12_95 h30 rfl ?_
      refine rhF.iload_n (pc := 197) dX12_moves_197 2 rfl ?_
      refine rhF.ck (fun h31 => ?_)
      refine rhF.ck (fun h32 => ?_)
      refine rhF.iald (pc := 198) dX12_moves_198 h31 h32 ?_
      refine rhF.iload_n (pc := 199) dX12_moves_199 1 rfl ?_
      refine rhF.isub (pc := 200) dX12_moves_200 ?_
      refine rhF.iload (pc := 201) dX12_moves_201 3 rfl ?_
      refine rhF.iadd (pc := 203) dX12_moves_203 ?_
      refine rhF.aload_n (pc := 204) dX12_moves_204 0 rfl ?_
      refine rhF.get (pc := 205) (rhR _) dX12_moves_205 fl_X12_98 h30 rfl ?_
      refine rhF.iload (pc := 208) dX12_moves_208 3 rfl ?_
      refine rhF.ck (fun h33 => ?_)
      refine rhF.ck (fun h34 => ?_)
      refine rhF.iald (pc := 210) dX12_moves_210 h33 h34 ?_
      refine rhF.ck (fun h35 => ?_)
      refine rhF.ck (fun h36 => ?_)
      refine rhF.iast (pc := 211) dX12_moves_211 h35 h36 ?_
      refine rhF.iinc (pc := 212) (L' := [(5, rhI _), (0, rhR _), (2, rhI _), (3, rhI _)]) dX12_moves_212 3 rfl rfl (by decide) rfl ?_
      refine rhF.goto (pc := 215) 183 dX12_moves_215 (by decide) ?_
      refine rhF.sub [1, 2, 3, 0] rfl ?_
      exact ih _ _ _ _ _
    · exact rhF.vret (pc := 218) dX12_moves_218 rfl rfl
set_option maxHeartbeats 4000000 in
set_option maxRecDepth 100000 in
theorem b_X12_moves_180 {E : rhE} {Γ : rhG} : ∀ (M : rhM) (v0 : Nat) (v2 : Int32) (v3 : Int32), rhF E 1 6 yX12_moves cX12_moves none Γ (rhe1U Γ) (f_X12_moves_180 Γ M v0 v2 v3) 180 [(0, rhR v0), (2, rhI v2), (3, rhI v3)] [] Γ M := by
  intro M v0 v2 v3
  rw [f_X12_moves_180]
  refine rhF.iconst (pc := 180) (v := 0) dX12_moves_180 (by decide) ?_
  refine rhF.istore (pc := 181) (L' := [(5, rhI _), (0, rhR _), (2, rhI _), (3, rhI _)]) dX12_moves_181 (by decide) rfl ?_
  refine rhF.sub [1, 2, 3, 0] rfl ?_
  exact (b_X12_moves_183 rhFU) _ _ _ _ _
set_option maxHeartbeats 4000000 in
set_option maxRecDepth 100000 in
theorem b_X12_moves_121 {E : rhE} {Γ : rhG} {k154 : rhM → Nat → Int32 → Int32 → Int32 → Option (rhM)} (hk154 : ∀ (M : rhM) (v0 : Nat) (v1 : Int32) (v2 : Int32) (v3 : Int32), rhF E 1 6 yX12_moves cX12_moves none Γ (rhe1U Γ) (k154 M v0 v1 v2 v3) 154 [(0, rhR v0), (1, rhI v1), (2, rhI v2), (3, rhI v3)] [] Γ M) : ∀ (n : Nat) (M : rhM) (v0 : Nat) (v1 : Int32) (v2 : Int32) (v3 : Int32) (v5 : Int32), rhF E 1 6 yX12_moves cX12_moves none Γ (rhe1U Γ) (f_X12_moves_121 k154 Γ n M v0 v1 v2 v3 v5) 121 [(0, rhR v0), (1, rhI v1), (2, rhI v2), (3, rhI v3), (5, rhI v5)] [] Γ M := by
  intro n
  induction n with
  | zero => intro M v0 v1 v2 v3 v5; rw [f_X12_moves_121]; exact rhF.nope
  | succ n ih =>
    intro M v0 v1 v2 v3 v5
    rw [f_X12_moves_121]
    refine rhF.iload (pc := 121) dX12_moves_121 4 rfl ?_
    refine rhF.aload_n (pc := 123) dX12_moves_123 0 rfl ?_
    refine rhF.ck (fun h40 => ?_)
    refine rhF.get (pc := 124) (rhR _) dX12_moves_124 fl_X12_95 h40 rfl ?_
    refine rhF.iload_n (pc := 127) dX12_moves_127 3 rfl ?_
    refine rhF.ck (fun h41 => ?_)
    refine rhF.ck (fun h42 => ?_)
    refine rhF.iald (pc := 128) dX12_moves_128 h41 h42 ?_
    refine rhF.icmp_lt (pc := 129) 154 dX12_moves_129 (by decide) (fun h43 => ?_) (fun h43 => ?_)
    · refine rhF.sub [0, 1, 2, 3] rfl ?_
      exact hk154 _ _ _ _ _
    · refine rhF.aload_n (pc := 132) dX12_moves_132 0 rfl ?_
      refine rhF.get (pc := 133) (rhR _) dX12_moves_133 fl_X12_92 h40 rfl ?_
      refine rhF.iload (pc := 136) dX12_moves_136 4 rfl ?_
      refine rhF.iload_n (pc := 138) dX12_moves_138 2 rfl ?_
      refine rhF.iadd (pc := 139) dX12_moves_139 ?_
      refine rhF.aload_n (pc := 140) dX12_moves_140 0 rfl ?_
      refine rhF.get (pc := 141) (rhR _) dX12_moves_141 fl_X12_92 h40 rfl ?_
      refine rhF.iload (pc := 144) dX12_moves_144 4 rfl ?_
      refine rhF.ck (fun h44 => ?_)
      refine rhF.ck (fun h45 => ?_)
      refine rhF.iald (pc := 146) dX12_moves_146 h44 h45 ?_
      refine rhF.ck (fun h46 => ?_)
      refine rhF.iast (pc := 147) dX12_moves_147 h44 h46 ?_
      refine rhF.iinc (pc := 148) (L' := [(5, rhI _), (0, rhR _), (1, rhI _), (2, rhI _), (3, rhI _)]) dX12_moves_148 4 rfl rfl (by decide) rfl ?_
      refine rhF.goto (pc := 151) 121 dX12_moves_151 (by decide) ?_
      refine rhF.sub [1, 2, 3, 4, 0] rfl ?_
      exact ih _ _ _ _ _ _
set_option maxHeartbeats 4000000 in
set_option maxRecDepth 100000 in
theorem b_X12_moves_157 {E : rhE} {Γ : rhG} {k180 : rhM → Nat → Int32 → Int32 → Option (rhM)} (hk180 : ∀ (M : rhM) (v0 : Nat) (v2 : Int32) (v3 : Int32), rhF E 1 6 yX12_moves cX12_moves none Γ (rhe1U Γ) (k180 M v0 v2 v3) 180 [(0, rhR v0), (2, rhI v2), (3, rhI v3)] [] Γ M) : ∀ (n : Nat) (M : rhM) (v0 : Nat) (v1 : Int32) (v2 : Int32) (v3 : Int32) (v5 : Int32), rhF E 1 6 yX12_moves cX12_moves none Γ (rhe1U Γ) (f_X12_moves_157 k180 Γ n M v0 v1 v2 v3 v5) 157 [(0, rhR v0), (1, rhI v1), (2, rhI v2), (3, rhI v3), (5, rhI v5)] [] Γ M := by
  intro n
  induction n with
  | zero => intro M v0 v1 v2 v3 v5; rw [f_X12_moves_157]; exact rhF.nope
  | succ n ih =>
    intro M v0 v1 v2 v3 v5
    rw [f_X12_moves_157]
    refine rhF.iload (pc := 157) dX12_moves_157 4 rfl ?_
    refine rhF.iload_n (pc := 159) dX12_moves_159 1 rfl ?_
    refine rhF.icmp_ge (pc := 160) 180 dX12_moves_160 (by decide) (fun h49 => ?_) (fun h49 => ?_)
    · refine rhF.aload_n (pc := 163) dX12_moves_163 0 rfl ?_
      refine rhF.ck (fun h50 => ?_)
      refine rhF.get (pc := 164) (rhR _) dX12_moves_164 fl_X12_95 h50 rfl ?_
      refine rhF.iload (pc := 167) dX12_moves_167 4 rfl ?_
      refine rhF.dup2ri (pc := 169) dX12_moves_169 ?_
      refine rhF.ck (fun h51 => ?_)
      refine rhF.ck (fun h52 => ?_)
      refine rhF.iald (pc := 170) dX12_moves_170 h51 h52 ?_
      refine rhF.iload_n (pc := 171) dX12_moves_171 2 rfl ?_
      refine rhF.iadd (pc := 172) dX12_moves_172 ?_
      refine rhF.iast (pc := 173) dX12_moves_173 h51 h52 ?_
      refine rhF.iinc (pc := 174) (L' := [(5, rhI _), (0, rhR _), (1, rhI _), (2, rhI _), (3, rhI _)]) dX12_moves_174 4 rfl rfl (by decide) rfl ?_
      refine rhF.goto (pc := 177) 157 dX12_moves_177 (by decide) ?_
      refine rhF.sub [1, 2, 3, 4, 0] rfl ?_
      exact ih _ _ _ _ _ _
    · refine rhF.sub [0, 2, 3] rfl ?_
      exact hk180 _ _ _ _
set_option maxHeartbeats 4000000 in
set_option maxRecDepth 100000 in
theorem b_X12_moves_154 {E : rhE} {Γ : rhG} {k180 : rhM → Nat → Int32 → Int32 → Option (rhM)} (hk180 : ∀ (M : rhM) (v0 : Nat) (v2 : Int32) (v3 : Int32), rhF E 1 6 yX12_moves cX12_moves none Γ (rhe1U Γ) (k180 M v0 v2 v3) 180 [(0, rhR v0), (2, rhI v2), (3, rhI v3)] [] Γ M) : ∀ (M : rhM) (v0 : Nat) (v1 : Int32) (v2 : Int32) (v3 : Int32), rhF E 1 6 yX12_moves cX12_moves none Γ (rhe1U Γ) (f_X12_moves_154 k180 Γ M v0 v1 v2 v3) 154 [(0, rhR v0), (1, rhI v1), (2, rhI v2), (3, rhI v3)] [] Γ M := by
  intro M v0 v1 v2 v3
  rw [f_X12_moves_154]
  refine rhF.iload_n (pc := 154) dX12_moves_154 3 rfl ?_
  refine rhF.istore (pc := 155) (L' := [(5, rhI _), (0, rhR _), (1, rhI _), (2, rhI _), (3, rhI _)]) dX12_moves_155 (by decide) rfl ?_
  refine rhF.sub [1, 2, 3, 4, 0] rfl ?_
  exact (b_X12_moves_157 hk180 rhFU) _ _ _ _ _ _
set_option maxHeartbeats 4000000 in
set_option maxRecDepth 100000 in
theorem b_X12_moves_42 {E : rhE} {Γ : rhG} : ∀ (M : rhM) (v0 : Nat) (v1 : Int32) (v2 : Int32) (v3 : Int32) (v4 : Int32), rhF E 1 6 yX12_moves cX12_moves none Γ (rhe1U Γ) (f_X12_moves_42 Γ M v0 v1 v2 v3 v4) 42 [(0, rhR v0), (1, rhI v1), (2, rhI v2), (3, rhI v3), (4, rhI v4)] [] Γ M := by
  intro M v0 v1 v2 v3 v4
  rw [f_X12_moves_42]
  refine rhF.iload_n (pc := 42) dX12_moves_42 1 rfl ?_
  refine rhF.iload_n (pc := 43) dX12_moves_43 3 rfl ?_
  refine rhF.icmp_ge (pc := 44) 115 dX12_moves_44 (by decide) (fun h13 => ?_) (fun h13 => ?_)
  · refine rhF.iload (pc := 47) dX12_moves_47 4 rfl ?_
    refine rhF.istore (pc := 49) (L' := [(5, rhI _), (0, rhR _), (1, rhI _), (2, rhI _), (3, rhI _), (4, rhI _)]) dX12_moves_49 (by decide) rfl ?_
    refine rhF.sub [1, 2, 3, 4, 0] rfl ?_
    exact (b_X12_moves_51 (b_X12_moves_86 (b_X12_moves_180)) rhFU) _ _ _ _ _ _
  · refine rhF.iload (pc := 115) dX12_moves_115 4 rfl ?_
    refine rhF.iconst (pc := 117) (v := 1) dX12_moves_117 (by decide) ?_
    refine rhF.isub (pc := 118) dX12_moves_118 ?_
    refine rhF.istore (pc := 119) (L' := [(5, rhI _), (0, rhR _), (1, rhI _), (2, rhI _), (3, rhI _), (4, rhI _)]) dX12_moves_119 (by decide) rfl ?_
    refine rhF.sub [1, 2, 3, 4, 0] rfl ?_
    exact (b_X12_moves_121 (b_X12_moves_154 (b_X12_moves_180)) rhFU) _ _ _ _ _ _
set_option maxHeartbeats 4000000 in
set_option maxRecDepth 100000 in
theorem b_X12_moves {E : rhE} {Γ : rhG} : ∀ (M : rhM) (v0 : Nat) (v1 : Int32) (v2 : Int32) (v3 : Int32), rhF E 1 6 yX12_moves cX12_moves none Γ (rhe1U Γ) (f_X12_moves Γ M v0 v1 v2 v3) 0 [(0, rhR v0), (1, rhI v1), (2, rhI v2), (3, rhI v3)] [] Γ M := by
  intro M v0 v1 v2 v3
  rw [f_X12_moves]
  refine rhF.aload_n (pc := 0) dX12_moves_0 0 rfl ?_
  refine rhF.ck (fun h1 => ?_)
  refine rhF.get (pc := 1) (rhR _) dX12_moves_1 fl_X12_95 h1 rfl ?_
  refine rhF.iload_n (pc := 4) dX12_moves_4 1 rfl ?_
  refine rhF.ck (fun h2 => ?_)
  refine rhF.ck (fun h3 => ?_)
  refine rhF.iald (pc := 5) dX12_moves_5 h2 h3 ?_
  refine rhF.iload_n (pc := 6) dX12_moves_6 2 rfl ?_
  refine rhF.isub (pc := 7) dX12_moves_7 ?_
  refine rhF.istore (pc := 8) (L' := [(4, rhI _), (0, rhR _), (1, rhI _), (2, rhI _), (3, rhI _)]) dX12_moves_8 (by decide) rfl ?_
  refine rhF.iconst (pc := 10) (v := 0) dX12_moves_10 (by decide) ?_
  refine rhF.istore (pc := 11) (L' := [(5, rhI _), (4, rhI _), (0, rhR _), (1, rhI _), (2, rhI _), (3, rhI _)]) dX12_moves_11 (by decide) rfl ?_
  refine rhF.sub [2, 3, 4, 5, 1, 0] rfl ?_
  exact (b_X12_moves_13 (b_X12_moves_42) rhFU) _ _ _ _ _ _ _
theorem c_X12_moves (E : rhE) (Γ : rhG) (M : rhM) (v0 : Nat) (v1 : Int32) (v2 : Int32) (v3 : Int32) : ∀ a, f_X12_moves Γ M v0 v1 v2 v3 = some a → rhC E 1 yX12_moves cX12_moves 6 none [rhR v0, rhI v1, rhI v2, rhI v3] Γ M ((rhe1U Γ) a) := rhF.met (by decide +kernel) (Nat.le_of_ble_eq_true rfl) (b_X12_moves M v0 v1 v2 v3)
def f_X12_stateOf_51 (k22 : Nat → Int32 → Int32 → Int32 → Int32 → Int32 → Option (Int32)) (Γ : rhG) (M : rhM) (v0 : Nat) (v1 : Int32) (v2 : Int32) (v3 : Int32) (v5 : Int32) (s0 : Int32) (s1 : Int32) : Option (Int32) :=
  let x11 := s0 + s1
  let x12 : Int32 := v5 + 1
  k22 v0 v1 v2 v3 x11 x12
def f_X12_stateOf_22 (k60 : Nat → Int32 → Int32 → Int32 → Int32 → Option (Int32)) (Γ : rhG) (M : rhM) : Nat → Nat → Int32 → Int32 → Int32 → Int32 → Int32 → Option (Int32)
  | 0, _, _, _, _, _, _ => none
  | n + 1, v0, v1, v2, v3, v4, v5 =>
    if v5 < v1 then
      (rhck (Γ.2.2.1 v0 = 13) <|
      rhck (Γ.2.2.1 (M.2.2 v0 39) = 15) <|
      rhck (0 ≤ (v5).toInt ∧ (v5).toInt < (Γ.2.2.2 (M.2.2 v0 39) : Nat)) <|
      rhck (0 ≤ (v3).toInt ∧ (v3).toInt < (Γ.2.2.2 (M.2.2 v0 39) : Nat)) <|
      if (M.1 (M.2.2 v0 39) v5.toNatClampNeg) < (M.1 (M.2.2 v0 39) v3.toNatClampNeg) then
        (f_X12_stateOf_51 (f_X12_stateOf_22 k60 Γ M n) Γ M v0 v1 v2 v3 v5 v4 1)
      else
        f_X12_stateOf_51 (f_X12_stateOf_22 k60 Γ M n) Γ M v0 v1 v2 v3 v5 v4 0)
    else
      k60 v0 v1 v2 v3 v4
def f_X12_stateOf_60 (k9 : Nat → Int32 → Int32 → Int32 → Option (Int32)) (Γ : rhG) (M : rhM) (v0 : Nat) (v1 : Int32) (v2 : Int32) (v3 : Int32) (v4 : Int32) : Option (Int32) :=
  let x13 := (v2 * (v1 - v3)) + v4
  let x14 : Int32 := v3 + 1
  k9 v0 v1 x13 x14
def f_X12_stateOf_9 (k75 : Nat → Int32 → Option (Int32)) (Γ : rhG) (M : rhM) : Nat → Nat → Int32 → Int32 → Int32 → Option (Int32)
  | 0, _, _, _, _ => none
  | n + 1, v0, v1, v2, v3 =>
    if v3 < v1 then
      (let x4 := v3 + 1
      f_X12_stateOf_22 (f_X12_stateOf_60 (f_X12_stateOf_9 k75 Γ M n) Γ M) Γ M rhFU v0 v1 v2 v3 0 x4)
    else
      k75 v0 v2
def f_X12_stateOf_104 (k77 : Nat → Int32 → Int32 → Option (Int32)) (Γ : rhG) (M : rhM) (v0 : Nat) (v3 : Int32) (s0 : Int32) (s1 : Int32) : Option (Int32) :=
  let x21 := s0 + s1
  let x22 : Int32 := v3 + 1
  k77 v0 x21 x22
def f_X12_stateOf_77 (Γ : rhG) (M : rhM) : Nat → Nat → Int32 → Int32 → Option (Int32)
  | 0, _, _, _ => none
  | n + 1, v0, v2, v3 =>
    if v3 < 3 then
      (rhck (Γ.2.2.1 v0 = 13) <|
      (f_X12_railMany Γ M v0).bind fun r17 =>
      if v3 < r17 then
        (rhck (Γ.2.2.1 (M.2.2 v0 40) = 15) <|
        rhck (0 ≤ (v3).toInt ∧ (v3).toInt < (Γ.2.2.2 (M.2.2 v0 40) : Nat)) <|
        f_X12_stateOf_104 (f_X12_stateOf_77 Γ M n) Γ M v0 v3 (7 * v2) (M.1 (M.2.2 v0 40) v3.toNatClampNeg))
      else
        f_X12_stateOf_104 (f_X12_stateOf_77 Γ M n) Γ M v0 v3 (7 * v2) 0)
    else
      some v2
def f_X12_stateOf_75 (Γ : rhG) (M : rhM) (v0 : Nat) (v2 : Int32) : Option (Int32) :=
  f_X12_stateOf_77 Γ M rhFU v0 v2 0
def f_X12_stateOf (Γ : rhG) (M : rhM) (v0 : Nat) : Option (Int32) :=
  rhck (Γ.2.2.1 v0 = 13) <|
  (f_X12_houseMany Γ M v0).bind fun r2 =>
  f_X12_stateOf_9 (f_X12_stateOf_75 Γ M) Γ M rhFU v0 r2 0 0
set_option maxHeartbeats 4000000 in
set_option maxRecDepth 100000 in
theorem b_X12_stateOf_51 {E : rhE} {Γ : rhG} {M : rhM} {k22 : Nat → Int32 → Int32 → Int32 → Int32 → Int32 → Option (Int32)} (hk22 : ∀ (v0 : Nat) (v1 : Int32) (v2 : Int32) (v3 : Int32) (v4 : Int32) (v5 : Int32), rhF E 5 6 yX12_stateOf cX12_stateOf (some .int) Γ (rhe0I Γ M) (k22 v0 v1 v2 v3 v4 v5) 22 [(0, rhR v0), (1, rhI v1), (2, rhI v2), (3, rhI v3), (4, rhI v4), (5, rhI v5)] [] Γ M) : ∀ (v0 : Nat) (v1 : Int32) (v2 : Int32) (v3 : Int32) (v5 : Int32) (s0 : Int32) (s1 : Int32), rhF E 5 6 yX12_stateOf cX12_stateOf (some .int) Γ (rhe0I Γ M) (f_X12_stateOf_51 k22 Γ M v0 v1 v2 v3 v5 s0 s1) 51 [(0, rhR v0), (1, rhI v1), (2, rhI v2), (3, rhI v3), (5, rhI v5)] [rhI s1, rhI s0] Γ M := by
  intro v0 v1 v2 v3 v5 s0 s1
  rw [f_X12_stateOf_51]
  refine rhF.iadd (pc := 51) dX12_stateOf_51 ?_
  refine rhF.istore (pc := 52) (L' := [(4, rhI _), (0, rhR _), (1, rhI _), (2, rhI _), (3, rhI _), (5, rhI _)]) dX12_stateOf_52 (by decide) rfl ?_
  refine rhF.iinc (pc := 54) (L' := [(5, rhI _), (4, rhI _), (0, rhR _), (1, rhI _), (2, rhI _), (3, rhI _)]) dX12_stateOf_54 5 rfl rfl (by decide) rfl ?_
  refine rhF.goto (pc := 57) 22 dX12_stateOf_57 (by decide) ?_
  refine rhF.sub [2, 3, 4, 5, 1, 0] rfl ?_
  exact hk22 _ _ _ _ _ _
set_option maxHeartbeats 4000000 in
set_option maxRecDepth 100000 in
theorem b_X12_stateOf_22 {E : rhE} {Γ : rhG} {M : rhM} {k60 : Nat → Int32 → Int32 → Int32 → Int32 → Option (Int32)} (hk60 : ∀ (v0 : Nat) (v1 : Int32) (v2 : Int32) (v3 : Int32) (v4 : Int32), rhF E 5 6 yX12_stateOf cX12_stateOf (some .int) Γ (rhe0I Γ M) (k60 v0 v1 v2 v3 v4) 60 [(0, rhR v0), (1, rhI v1), (2, rhI v2), (3, rhI v3), (4, rhI v4)] [] Γ M) : ∀ (n : Nat) (v0 : Nat) (v1 : Int32) (v2 : Int32) (v3 : Int32) (v4 : Int32) (v5 : Int32), rhF E 5 6 yX12_stateOf cX12_stateOf (some .int) Γ (rhe0I Γ M) (f_X12_stateOf_22 k60 Γ M n v0 v1 v2 v3 v4 v5) 22 [(0, rhR v0), (1, rhI v1), (2, rhI v2), (3, rhI v3), (4, rhI v4), (5, rhI v5)] [] Γ M := by
  intro n
  induction n with
  | zero => intro v0 v1 v2 v3 v4 v5; rw [f_X12_stateOf_22]; exact rhF.nope
  | succ n ih =>
    intro v0 v1 v2 v3 v4 v5
    rw [f_X12_stateOf_22]
    refine rhF.iload (pc := 22) dX12_stateOf_22 5 rfl ?_
    refine rhF.iload_n (pc := 24) dX12_stateOf_24 1 rfl ?_
    refine rhF.icmp_ge (pc := 25) 60 dX12_stateOf_25 (by decide) (fun h5 => ?_) (fun h5 => ?_)
    · refine rhF.iload (pc := 28) dX12_stateOf_28 4 rfl ?_
      refine rhF.aload_n (pc := 30) dX12_stateOf_30 0 rfl ?_
      refine rhF.ck (fun h6 => ?_)
      refine rhF.get (pc := 31) (rhR _) dX12_stateOf_31 fl_X12_92 h6 rfl ?_
      refine rhF.iload (pc := 34) dX12_stateOf_34 5 rfl ?_
      refine rhF.ck (fun h7 => ?_)
      refine rhF.ck (fun h8 => ?_)
      refine rhF.iald (pc := 36) dX12_stateOf_36 h7 h8 ?_
      refine rhF.aload_n (pc := 37) dX12_stateOf_37 0 rfl ?_
      refine rhF.get (pc := 38) (rhR _) dX12_stateOf_38 fl_X12_92 h6 rfl ?_
      refine rhF.iload_n (pc := 41) dX12_stateOf_41 3 rfl ?_
      refine rhF.ck (fun h9 => ?_)
      refine rhF.iald (pc := 42) dX12_stateOf_42 h7 h9 ?_
      refine rhF.icmp_ge (pc := 43) 50 dX12_stateOf_43 (by decide) (fun h10 => ?_) (fun h10 => ?_)
      · refine rhF.iconst (pc := 46) (v := 1) dX12_stateOf_46 (by decide) ?_
        refine rhF.goto (pc := 47) 51 dX12_stateOf_47 (by decide) ?_
        refine rhF.sub [0, 1, 2, 3, 5] rfl ?_
        exact (b_X12_stateOf_51 ih) _ _ _ _ _ _ _
      · refine rhF.iconst (pc := 50) (v := 0) dX12_stateOf_50 (by decide) ?_
        refine rhF.sub [0, 1, 2, 3, 5] rfl ?_
        exact (b_X12_stateOf_51 ih) _ _ _ _ _ _ _
    · refine rhF.sub [0, 1, 2, 3, 4] rfl ?_
      exact hk60 _ _ _ _ _
set_option maxHeartbeats 4000000 in
set_option maxRecDepth 100000 in
theorem b_X12_stateOf_60 {E : rhE} {Γ : rhG} {M : rhM} {k9 : Nat → Int32 → Int32 → Int32 → Option (Int32)} (hk9 : ∀ (v0 : Nat) (v1 : Int32) (v2 : Int32) (v3 : Int32), rhF E 5 6 yX12_stateOf cX12_stateOf (some .int) Γ (rhe0I Γ M) (k9 v0 v1 v2 v3) 9 [(0, rhR v0), (1, rhI v1), (2, rhI v2), (3, rhI v3)] [] Γ M) : ∀ (v0 : Nat) (v1 : Int32) (v2 : Int32) (v3 : Int32) (v4 : Int32), rhF E 5 6 yX12_stateOf cX12_stateOf (some .int) Γ (rhe0I Γ M) (f_X12_stateOf_60 k9 Γ M v0 v1 v2 v3 v4) 60 [(0, rhR v0), (1, rhI v1), (2, rhI v2), (3, rhI v3), (4, rhI v4)] [] Γ M := by
  intro v0 v1 v2 v3 v4
  rw [f_X12_stateOf_60]
  refine rhF.iload_n (pc := 60) dX12_stateOf_60 2 rfl ?_
  refine rhF.iload_n (pc := 61) dX12_stateOf_61 1 rfl ?_
  refine rhF.iload_n (pc := 62) dX12_stateOf_62 3 rfl ?_
  refine rhF.isub (pc := 63) dX12_stateOf_63 ?_
  refine rhF.imul (pc := 64) dX12_stateOf_64 ?_
  refine rhF.iload (pc := 65) dX12_stateOf_65 4 rfl ?_
  refine rhF.iadd (pc := 67) dX12_stateOf_67 ?_
  refine rhF.istore_n (pc := 68) (L' := [(2, rhI _), (0, rhR _), (1, rhI _), (3, rhI _), (4, rhI _)]) dX12_stateOf_68 (by decide) rfl ?_
  refine rhF.iinc (pc := 69) (L' := [(3, rhI _), (2, rhI _), (0, rhR _), (1, rhI _), (4, rhI _)]) dX12_stateOf_69 3 rfl rfl (by decide) rfl ?_
  refine rhF.goto (pc := 72) 9 dX12_stateOf_72 (by decide) ?_
  refine rhF.sub [2, 3, 1, 0] rfl ?_
  exact hk9 _ _ _ _
set_option maxHeartbeats 4000000 in
set_option maxRecDepth 100000 in
theorem b_X12_stateOf_9 {E : rhE} {Γ : rhG} {M : rhM} {k75 : Nat → Int32 → Option (Int32)} (hk75 : ∀ (v0 : Nat) (v2 : Int32), rhF E 5 6 yX12_stateOf cX12_stateOf (some .int) Γ (rhe0I Γ M) (k75 v0 v2) 75 [(0, rhR v0), (2, rhI v2)] [] Γ M) : ∀ (n : Nat) (v0 : Nat) (v1 : Int32) (v2 : Int32) (v3 : Int32), rhF E 5 6 yX12_stateOf cX12_stateOf (some .int) Γ (rhe0I Γ M) (f_X12_stateOf_9 k75 Γ M n v0 v1 v2 v3) 9 [(0, rhR v0), (1, rhI v1), (2, rhI v2), (3, rhI v3)] [] Γ M := by
  intro n
  induction n with
  | zero => intro v0 v1 v2 v3; rw [f_X12_stateOf_9]; exact rhF.nope
  | succ n ih =>
    intro v0 v1 v2 v3
    rw [f_X12_stateOf_9]
    refine rhF.iload_n (pc := 9) dX12_stateOf_9 3 rfl ?_
    refine rhF.iload_n (pc := 10) dX12_stateOf_10 1 rfl ?_
    refine rhF.icmp_ge (pc := 11) 75 dX12_stateOf_11 (by decide) (fun h3 => ?_) (fun h3 => ?_)
    · refine rhF.iconst (pc := 14) (v := 0) dX12_stateOf_14 (by decide) ?_
      refine rhF.istore (pc := 15) (L' := [(4, rhI _), (0, rhR _), (1, rhI _), (2, rhI _), (3, rhI _)]) dX12_stateOf_15 (by decide) rfl ?_
      refine rhF.iload_n (pc := 17) dX12_stateOf_17 4 rfl ?_
      refine rhF.iconst (pc := 18) (v := 1) dX12_stateOf_18 (by decide) ?_
      refine rhF.iadd (pc := 19) dX12_stateOf_19 ?_
      refine rhF.istore (pc := 20) (L' := [(5, rhI _), (4, rhI _), (0, rhR _), (1, rhI _), (2, rhI _), (3, rhI _)]) dX12_stateOf_20 (by decide) rfl ?_
      refine rhF.sub [2, 3, 4, 5, 1, 0] rfl ?_
      exact (b_X12_stateOf_22 (b_X12_stateOf_60 ih) rhFU) _ _ _ _ _ _
    · refine rhF.sub [0, 2] rfl ?_
      exact hk75 _ _
set_option maxHeartbeats 4000000 in
set_option maxRecDepth 100000 in
theorem b_X12_stateOf_104 {E : rhE} {Γ : rhG} {M : rhM} {k77 : Nat → Int32 → Int32 → Option (Int32)} (hk77 : ∀ (v0 : Nat) (v2 : Int32) (v3 : Int32), rhF E 5 6 yX12_stateOf cX12_stateOf (some .int) Γ (rhe0I Γ M) (k77 v0 v2 v3) 77 [(0, rhR v0), (2, rhI v2), (3, rhI v3)] [] Γ M) : ∀ (v0 : Nat) (v3 : Int32) (s0 : Int32) (s1 : Int32), rhF E 5 6 yX12_stateOf cX12_stateOf (some .int) Γ (rhe0I Γ M) (f_X12_stateOf_104 k77 Γ M v0 v3 s0 s1) 104 [(0, rhR v0), (3, rhI v3)] [rhI s1, rhI s0] Γ M := by
  intro v0 v3 s0 s1
  rw [f_X12_stateOf_104]
  refine rhF.iadd (pc := 104) dX12_stateOf_104 ?_
  refine rhF.istore_n (pc := 105) (L' := [(2, rhI _), (0, rhR _), (3, rhI _)]) dX12_stateOf_105 (by decide) rfl ?_
  refine rhF.iinc (pc := 106) (L' := [(3, rhI _), (2, rhI _), (0, rhR _)]) dX12_stateOf_106 2 rfl rfl (by decide) rfl ?_
  refine rhF.goto (pc := 109) 77 dX12_stateOf_109 (by decide) ?_
  refine rhF.sub [2, 1, 0] rfl ?_
  exact hk77 _ _ _
set_option maxHeartbeats 4000000 in
set_option maxRecDepth 100000 in
theorem b_X12_stateOf_77 {E : rhE} {Γ : rhG} {M : rhM} : ∀ (n : Nat) (v0 : Nat) (v2 : Int32) (v3 : Int32), rhF E 5 6 yX12_stateOf cX12_stateOf (some .int) Γ (rhe0I Γ M) (f_X12_stateOf_77 Γ M n v0 v2 v3) 77 [(0, rhR v0), (2, rhI v2), (3, rhI v3)] [] Γ M := by
  intro n
  induction n with
  | zero => intro v0 v2 v3; rw [f_X12_stateOf_77]; exact rhF.nope
  | succ n ih =>
    intro v0 v2 v3
    rw [f_X12_stateOf_77]
    refine rhF.iload_n (pc := 77) dX12_stateOf_77 2 rfl ?_
    refine rhF.iconst (pc := 78) (v := 3) dX12_stateOf_78 (by decide) ?_
    refine rhF.icmp_ge (pc := 79) 112 dX12_stateOf_79 (by decide) (fun h15 => ?_) (fun h15 => ?_)
    · refine rhF.bipush (pc := 82) (v := 7) dX12_stateOf_82 (by decide) ?_
      refine rhF.iload_n (pc := 84) dX12_stateOf_84 1 rfl ?_
      refine rhF.imul (pc := 85) dX12_stateOf_85 ?_
      refine rhF.iload_n (pc := 86) dX12_stateOf_86 2 rfl ?_
      refine rhF.aload_n (pc := 87) dX12_stateOf_87 0 rfl ?_
      refine rhF.ck (fun h16 => ?_)
      refine rhF.callV (pc := 88) (ci := 12) (embc := rhe0I _ _) [] dX12_stateOf_88 ml_X12_412 mv_X12_railMany ⟨_, rfl, rfl⟩ h16 (c_X12_railMany _ _ _ _) (by decide) (by decide) rfl (Nat.le_of_ble_eq_true rfl) (fun r17 _ => ?_)
      refine rhF.icmp_ge (pc := 91) 103 dX12_stateOf_91 (by decide) (fun h18 => ?_) (fun h18 => ?_)
      · refine rhF.aload_n (pc := 94) dX12_stateOf_94 0 rfl ?_
        refine rhF.get (pc := 95) (rhR _) dX12_stateOf_95 fl_X12_95 h16 rfl ?_
        refine rhF.iload_n (pc := 98) dX12_stateOf_98 2 rfl ?_
        refine rhF.ck (fun h19 => ?_)
        refine rhF.ck (fun h20 => ?_)
        refine rhF.iald (pc := 99) dX12_stateOf_99 h19 h20 ?_
        refine rhF.goto (pc := 100) 104 dX12_stateOf_100 (by decide) ?_
        refine rhF.sub [0, 2] rfl ?_
        exact (b_X12_stateOf_104 ih) _ _ _ _
      · refine rhF.iconst (pc := 103) (v := 0) dX12_stateOf_103 (by decide) ?_
        refine rhF.sub [0, 2] rfl ?_
        exact (b_X12_stateOf_104 ih) _ _ _ _
    · refine rhF.iload_n (pc := 112) dX12_stateOf_112 1 rfl ?_
      exact rhF.zret (pc := 113) dX12_stateOf_113 rfl rfl rfl
set_option maxHeartbeats 4000000 in
set_option maxRecDepth 100000 in
theorem b_X12_stateOf_75 {E : rhE} {Γ : rhG} {M : rhM} : ∀ (v0 : Nat) (v2 : Int32), rhF E 5 6 yX12_stateOf cX12_stateOf (some .int) Γ (rhe0I Γ M) (f_X12_stateOf_75 Γ M v0 v2) 75 [(0, rhR v0), (2, rhI v2)] [] Γ M := by
  intro v0 v2
  rw [f_X12_stateOf_75]
  refine rhF.iconst (pc := 75) (v := 0) dX12_stateOf_75 (by decide) ?_
  refine rhF.istore_n (pc := 76) (L' := [(3, rhI _), (0, rhR _), (2, rhI _)]) dX12_stateOf_76 (by decide) rfl ?_
  refine rhF.sub [1, 2, 0] rfl ?_
  exact (b_X12_stateOf_77 rhFU) _ _ _
set_option maxHeartbeats 4000000 in
set_option maxRecDepth 100000 in
theorem b_X12_stateOf {E : rhE} {Γ : rhG} {M : rhM} : ∀ (v0 : Nat), rhF E 5 6 yX12_stateOf cX12_stateOf (some .int) Γ (rhe0I Γ M) (f_X12_stateOf Γ M v0) 0 [(0, rhR v0)] [] Γ M := by
  intro v0
  rw [f_X12_stateOf]
  refine rhF.aload_n (pc := 0) dX12_stateOf_0 0 rfl ?_
  refine rhF.ck (fun h1 => ?_)
  refine rhF.callV (pc := 1) (ci := 12) (embc := rhe0I _ _) [] dX12_stateOf_1 ml_X12_419 mv_X12_houseMany ⟨_, rfl, rfl⟩ h1 (c_X12_houseMany _ _ _ _) (by decide) (by decide) rfl (Nat.le_of_ble_eq_true rfl) (fun r2 _ => ?_)
  refine rhF.istore_n (pc := 4) (L' := [(1, rhI _), (0, rhR _)]) dX12_stateOf_4 (by decide) rfl ?_
  refine rhF.iconst (pc := 5) (v := 0) dX12_stateOf_5 (by decide) ?_
  refine rhF.istore_n (pc := 6) (L' := [(2, rhI _), (1, rhI _), (0, rhR _)]) dX12_stateOf_6 (by decide) rfl ?_
  refine rhF.iconst (pc := 7) (v := 0) dX12_stateOf_7 (by decide) ?_
  refine rhF.istore_n (pc := 8) (L' := [(3, rhI _), (2, rhI _), (1, rhI _), (0, rhR _)]) dX12_stateOf_8 (by decide) rfl ?_
  refine rhF.sub [3, 2, 1, 0] rfl ?_
  exact (b_X12_stateOf_9 (b_X12_stateOf_75) rhFU) _ _ _ _
theorem c_X12_stateOf (E : rhE) (Γ : rhG) (M : rhM) (v0 : Nat) : ∀ a, f_X12_stateOf Γ M v0 = some a → rhC E 5 yX12_stateOf cX12_stateOf 6 (some .int) [rhR v0] Γ M ((rhe0I Γ M) a) := rhF.met (by decide +kernel) (Nat.le_of_ble_eq_true rfl) (b_X12_stateOf v0)
def f_X12_nextTight_164 (k51 : rhM → Nat → Int32 → Int32 → Int32 → Int32 → Option (Int32 × rhM)) (Γ : rhG) (M : rhM) (v0 : Nat) (v1 : Int32) (v2 : Int32) (v3 : Int32) (v4 : Int32) : Option (Int32 × rhM) :=
  let x18 : Int32 := v4 + 1
  k51 M v0 v1 v2 v3 x18
def f_X12_nextTight_51 (k151 : rhM → Int32 → Int32 → Int32 → Option (Int32 × rhM)) (k170 : rhM → Nat → Int32 → Int32 → Int32 → Option (Int32 × rhM)) (Γ : rhG) : Nat → rhM → Nat → Int32 → Int32 → Int32 → Int32 → Option (Int32 × rhM)
  | 0, _, _, _, _, _, _ => none
  | n + 1, M, v0, v1, v2, v3, v4 =>
    rhck (Γ.2.2.1 v0 = 13) <|
    (f_X12_railMany Γ M v0).bind fun r13 =>
    if v4 < r13 then
      ((f_X12_layAt Γ M v0).bind fun r15 =>
      (f_X12_isLawful Γ r15 v0 v2 v3 v4).bind fun r16 =>
      if r16.1 = 0 then
        (f_X12_nextTight_164 (f_X12_nextTight_51 k151 k170 Γ n) Γ r16.2 v0 v1 v2 v3 v4)
      else
        (f_X12_sumOf Γ r16.2 v0 (r16.2.2.2 v0 20) v2 v3).bind fun r19 =>
        (f_X12_moves Γ r16.2 v0 v2 v3 v4).bind fun r20 =>
        (f_X12_stateOf Γ r20 v0).bind fun r21 =>
        rhck (Γ.2.2.1 (r20.2.2 v0 59) = 17) <|
        rhck (0 ≤ (r21).toInt ∧ (r21).toInt < (Γ.2.2.2 (r20.2.2 v0 59) : Nat)) <|
        if (r20.1 (r20.2.2 v0 59) r21.toNatClampNeg) = 0 then
          (f_X12_nextTight_164 (f_X12_nextTight_51 k151 k170 Γ n) Γ r20 v0 v1 v2 v3 v4)
        else
          rhck (Γ.2.2.1 (r20.2.2 v0 57) = 15) <|
          rhck (0 ≤ (r21).toInt ∧ (r21).toInt < (Γ.2.2.2 (r20.2.2 v0 57) : Nat)) <|
          rhck (0 ≤ (v1).toInt ∧ (v1).toInt < (Γ.2.2.2 (r20.2.2 v0 57) : Nat)) <|
          if (r20.1 (r20.2.2 v0 57) r21.toNatClampNeg) = ((r20.1 (r20.2.2 v0 57) v1.toNatClampNeg) + r19) then
            (rhck (Γ.2.2.1 (r20.2.2 v0 56) = 15) <|
            rhck (0 ≤ (r21).toInt ∧ (r21).toInt < (Γ.2.2.2 (r20.2.2 v0 56) : Nat)) <|
            rhck (0 ≤ (v1).toInt ∧ (v1).toInt < (Γ.2.2.2 (r20.2.2 v0 56) : Nat)) <|
            if (r20.1 (r20.2.2 v0 56) r21.toNatClampNeg) = ((r20.1 (r20.2.2 v0 56) v1.toNatClampNeg) + 1) then
              (k151 r20 v2 v3 v4)
            else
              f_X12_nextTight_164 (f_X12_nextTight_51 k151 k170 Γ n) Γ r20 v0 v1 v2 v3 v4)
          else
            f_X12_nextTight_164 (f_X12_nextTight_51 k151 k170 Γ n) Γ r20 v0 v1 v2 v3 v4)
    else
      k170 M v0 v1 v2 v3
def f_X12_nextTight_170 (k21 : rhM → Nat → Int32 → Int32 → Int32 → Option (Int32 × rhM)) (Γ : rhG) (M : rhM) (v0 : Nat) (v1 : Int32) (v2 : Int32) (v3 : Int32) : Option (Int32 × rhM) :=
  let x33 : Int32 := v3 + 1
  k21 M v0 v1 v2 x33
def f_X12_nextTight_44 (k21 : rhM → Nat → Int32 → Int32 → Int32 → Option (Int32 × rhM)) (k151 : rhM → Int32 → Int32 → Int32 → Option (Int32 × rhM)) (k176 : rhM → Nat → Int32 → Int32 → Option (Int32 × rhM)) (Γ : rhG) (M : rhM) (v0 : Nat) (v1 : Int32) (v2 : Int32) (v3 : Int32) (s0 : Int32) (s1 : Int32) (s2 : Int32) : Option (Int32 × rhM) :=
  if (s1 - s2) < s0 then
    (k176 M v0 v1 v2)
  else
    f_X12_nextTight_51 k151 (f_X12_nextTight_170 k21 Γ) Γ rhFU M v0 v1 v2 v3 0
def f_X12_nextTight_21 (k151 : rhM → Int32 → Int32 → Int32 → Option (Int32 × rhM)) (k176 : rhM → Nat → Int32 → Int32 → Option (Int32 × rhM)) (Γ : rhG) : Nat → rhM → Nat → Int32 → Int32 → Int32 → Option (Int32 × rhM)
  | 0, _, _, _, _, _ => none
  | n + 1, M, v0, v1, v2, v3 =>
    rhck (Γ.2.2.1 v0 = 13) <|
    rhck (Γ.2.2.1 (M.2.2 v0 64) = 15) <|
    rhck (0 ≤ (v2).toInt ∧ (v2).toInt < (Γ.2.2.2 (M.2.2 v0 64) : Nat)) <|
    if v2 = 0 then
      (f_X12_nextTight_44 (f_X12_nextTight_21 k151 k176 Γ n) k151 k176 Γ M v0 v1 v2 v3 v3 (M.1 (M.2.2 v0 64) v2.toNatClampNeg) 0)
    else
      rhck (0 ≤ (v2 - 1).toInt ∧ (v2 - 1).toInt < (Γ.2.2.2 (M.2.2 v0 64) : Nat)) <|
      f_X12_nextTight_44 (f_X12_nextTight_21 k151 k176 Γ n) k151 k176 Γ M v0 v1 v2 v3 v3 (M.1 (M.2.2 v0 64) v2.toNatClampNeg) (M.1 (M.2.2 v0 64) (v2 - 1).toNatClampNeg)
def f_X12_nextTight_176 (k11 : rhM → Nat → Int32 → Int32 → Option (Int32 × rhM)) (Γ : rhG) (M : rhM) (v0 : Nat) (v1 : Int32) (v2 : Int32) : Option (Int32 × rhM) :=
  let x35 : Int32 := v2 + 1
  k11 M v0 v1 x35
def f_X12_nextTight_11 (k151 : rhM → Int32 → Int32 → Int32 → Option (Int32 × rhM)) (Γ : rhG) : Nat → rhM → Nat → Int32 → Int32 → Option (Int32 × rhM)
  | 0, _, _, _, _ => none
  | n + 1, M, v0, v1, v2 =>
    rhck (Γ.2.2.1 v0 = 13) <|
    (f_X12_railMany Γ M v0).bind fun r5 =>
    if v2 < r5 then
      (f_X12_nextTight_21 k151 (f_X12_nextTight_176 (f_X12_nextTight_11 k151 Γ n) Γ) Γ rhFU M v0 v1 v2 1)
    else
      some (((-1), M))
def f_X12_nextTight_151 (Γ : rhG) (M : rhM) (v2 : Int32) (v3 : Int32) (v4 : Int32) : Option (Int32 × rhM) :=
  some ((((100 * v2) + (10 * v3)) + v4, M))
def f_X12_nextTight (Γ : rhG) (M : rhM) (v0 : Nat) (v1 : Int32) : Option (Int32 × rhM) :=
  rhck (Γ.2.2.1 v0 = 13) <|
  (f_X12_layState Γ M v0 v1).bind fun r2 =>
  (f_X12_keepAt Γ r2 v0).bind fun r3 =>
  f_X12_nextTight_11 (f_X12_nextTight_151 Γ) Γ rhFU r3 v0 v1 0
set_option maxHeartbeats 4000000 in
set_option maxRecDepth 100000 in
theorem b_X12_nextTight_164 {E : rhE} {Γ : rhG} {k51 : rhM → Nat → Int32 → Int32 → Int32 → Int32 → Option (Int32 × rhM)} (hk51 : ∀ (M : rhM) (v0 : Nat) (v1 : Int32) (v2 : Int32) (v3 : Int32) (v4 : Int32), rhF E 9 7 yX12_nextTight cX12_nextTight (some .int) Γ (rhe1I Γ) (k51 M v0 v1 v2 v3 v4) 51 [(0, rhR v0), (1, rhI v1), (2, rhI v2), (3, rhI v3), (4, rhI v4)] [] Γ M) : ∀ (M : rhM) (v0 : Nat) (v1 : Int32) (v2 : Int32) (v3 : Int32) (v4 : Int32), rhF E 9 7 yX12_nextTight cX12_nextTight (some .int) Γ (rhe1I Γ) (f_X12_nextTight_164 k51 Γ M v0 v1 v2 v3 v4) 164 [(0, rhR v0), (1, rhI v1), (2, rhI v2), (3, rhI v3), (4, rhI v4)] [] Γ M := by
  intro M v0 v1 v2 v3 v4
  rw [f_X12_nextTight_164]
  refine rhF.iinc (pc := 164) (L' := [(4, rhI _), (0, rhR _), (1, rhI _), (2, rhI _), (3, rhI _)]) dX12_nextTight_164 4 rfl rfl (by decide) rfl ?_
  refine rhF.goto (pc := 167) 51 dX12_nextTight_167 (by decide) ?_
  refine rhF.sub [1, 2, 3, 4, 0] rfl ?_
  exact hk51 _ _ _ _ _ _
set_option maxHeartbeats 4000000 in
set_option maxRecDepth 100000 in
theorem b_X12_nextTight_51 {E : rhE} {Γ : rhG} {k151 : rhM → Int32 → Int32 → Int32 → Option (Int32 × rhM)} {k170 : rhM → Nat → Int32 → Int32 → Int32 → Option (Int32 × rhM)} (hk151 : ∀ (M : rhM) (v2 : Int32) (v3 : Int32) (v4 : Int32), rhF E 9 7 yX12_nextTight cX12_nextTight (some .int) Γ (rhe1I Γ) (k151 M v2 v3 v4) 151 [(2, rhI v2), (3, rhI v3), (4, rhI v4)] [] Γ M) (hk170 : ∀ (M : rhM) (v0 : Nat) (v1 : Int32) (v2 : Int32) (v3 : Int32), rhF E 9 7 yX12_nextTight cX12_nextTight (some .int) Γ (rhe1I Γ) (k170 M v0 v1 v2 v3) 170 [(0, rhR v0), (1, rhI v1), (2, rhI v2), (3, rhI v3)] [] Γ M) : ∀ (n : Nat) (M : rhM) (v0 : Nat) (v1 : Int32) (v2 : Int32) (v3 : Int32) (v4 : Int32), rhF E 9 7 yX12_nextTight cX12_nextTight (some .int) Γ (rhe1I Γ) (f_X12_nextTight_51 k151 k170 Γ n M v0 v1 v2 v3 v4) 51 [(0, rhR v0), (1, rhI v1), (2, rhI v2), (3, rhI v3), (4, rhI v4)] [] Γ M := by
  intro n
  induction n with
  | zero => intro M v0 v1 v2 v3 v4; rw [f_X12_nextTight_51]; exact rhF.nope
  | succ n ih =>
    intro M v0 v1 v2 v3 v4
    rw [f_X12_nextTight_51]
    refine rhF.iload (pc := 51) dX12_nextTight_51 4 rfl ?_
    refine rhF.aload_n (pc := 53) dX12_nextTight_53 0 rfl ?_
    refine rhF.ck (fun h12 => ?_)
    refine rhF.callV (pc := 54) (ci := 12) (embc := rhe0I _ _) [] dX12_nextTight_54 ml_X12_412 mv_X12_railMany ⟨_, rfl, rfl⟩ h12 (c_X12_railMany _ _ _ _) (by decide) (by decide) rfl (Nat.le_of_ble_eq_true rfl) (fun r13 _ => ?_)
    refine rhF.icmp_ge (pc := 57) 170 dX12_nextTight_57 (by decide) (fun h14 => ?_) (fun h14 => ?_)
    · refine rhF.aload_n (pc := 60) dX12_nextTight_60 0 rfl ?_
      refine rhF.callV (pc := 61) (ci := 12) (embc := rhe1U _) [] dX12_nextTight_61 ml_X12_512 mv_X12_layAt ⟨_, rfl, rfl⟩ h12 (c_X12_layAt _ _ _ _) (by decide) (by decide) rfl (Nat.le_of_ble_eq_true rfl) (fun r15 _ => ?_)
      refine rhF.aload_n (pc := 64) dX12_nextTight_64 0 rfl ?_
      refine rhF.iload_n (pc := 65) dX12_nextTight_65 2 rfl ?_
      refine rhF.iload_n (pc := 66) dX12_nextTight_66 3 rfl ?_
      refine rhF.iload (pc := 67) dX12_nextTight_67 4 rfl ?_
      refine rhF.callV (pc := 69) (ci := 12) (embc := rhe1I _) [rhI _, rhI _, rhI _] dX12_nextTight_69 ml_X12_471 mv_X12_isLawful ⟨_, rfl, rfl⟩ h12 (c_X12_isLawful _ _ _ _ _ _ _) (by decide) (by decide) rfl (Nat.le_of_ble_eq_true rfl) (fun r16 _ => ?_)
      refine rhF.if_ne (pc := 72) 78 dX12_nextTight_72 (by decide) (fun h17 => ?_) (fun h17 => ?_)
      · refine rhF.goto (pc := 75) 164 dX12_nextTight_75 (by decide) ?_
        exact (b_X12_nextTight_164 ih) _ _ _ _ _ _
      · refine rhF.aload_n (pc := 78) dX12_nextTight_78 0 rfl ?_
        refine rhF.aload_n (pc := 79) dX12_nextTight_79 0 rfl ?_
        refine rhF.get (pc := 80) (rhR _) dX12_nextTight_80 fl_X12_48 h12 rfl ?_
        refine rhF.iload_n (pc := 83) dX12_nextTight_83 2 rfl ?_
        refine rhF.iload_n (pc := 84) dX12_nextTight_84 3 rfl ?_
        refine rhF.callV (pc := 85) (ci := 12) (embc := rhe0I _ _) [rhR _, rhI _, rhI _] dX12_nextTight_85 ml_X12_431 mv_X12_sumOf ⟨_, rfl, rfl⟩ h12 (c_X12_sumOf _ _ _ _ _ _ _) (by decide) (by decide) rfl (Nat.le_of_ble_eq_true rfl) (fun r19 _ => ?_)
        refine rhF.istore (pc := 88) (L' := [(5, rhI _), (0, rhR _), (1, rhI _), (2, rhI _), (3, rhI _), (4, rhI _)]) dX12_nextTight_88 (by decide) rfl ?_
        refine rhF.aload_n (pc := 90) dX12_nextTight_90 1 rfl ?_
        refine rhF.iload_n (pc := 91) dX12_nextTight_91 3 rfl ?_
        refine rhF.iload_n (pc := 92) dX12_nextTight_92 4 rfl ?_
        refine rhF.iload (pc := 93) dX12_nextTight_93 5 rfl ?_
        refine rhF.callV (pc := 95) (ci := 12) (embc := rhe1U _) [rhI _, rhI _, rhI _] dX12_nextTight_95 ml_X12_474 mv_X12_moves ⟨_, rfl, rfl⟩ h12 (c_X12_moves _ _ _ _ _ _ _) (by decide) (by decide) rfl (Nat.le_of_ble_eq_true rfl) (fun r20 _ => ?_)
        refine rhF.aload_n (pc := 98) dX12_nextTight_98 1 rfl ?_
        refine rhF.callV (pc := 99) (ci := 12) (embc := rhe0I _ _) [] dX12_nextTight_99 ml_X12_490 mv_X12_stateOf ⟨_, rfl, rfl⟩ h12 (c_X12_stateOf _ _ _ _) (by decide) (by decide) rfl (Nat.le_of_ble_eq_true rfl) (fun r21 _ => ?_)
        refine rhF.istore (pc := 102) (L' := [(6, rhI _), (5, rhI _), (0, rhR _), (1, rhI _), (2, rhI _), (3, rhI _), (4, rhI _)]) dX12_nextTight_102 (by decide) rfl ?_
        refine rhF.aload_n (pc := 104) dX12_nextTight_104 2 rfl ?_
        refine rhF.get (pc := 105) (rhR _) dX12_nextTight_105 fl_X12_139 h12 rfl ?_
        refine rhF.iload (pc := 108) dX12_nextTight_108 0 rfl ?_
        refine rhF.ck (fun h22 => ?_)
        refine rhF.ck (fun h23 => ?_)
        refine rhF.zald (pc := 110) dX12_nextTight_110 h22 h23 ?_
        refine rhF.if_eq (pc := 111) 164 dX12_nextTight_111 (by decide) (fun h24 => ?_) (fun h24 => ?_)
        · refine rhF.sub [2, 3, 4, 5, 6] rfl ?_
          exact (b_X12_nextTight_164 ih) _ _ _ _ _ _
        · refine rhF.aload_n (pc := 114) dX12_nextTight_114 2 rfl ?_
          refine rhF.get (pc := 115) (rhR _) dX12_nextTight_115 fl_X12_132 h12 rfl ?_
          refine rhF.iload (pc := 118) dX12_nextTight_118 0 rfl ?_
          refine rhF.ck (fun h25 => ?_)
          refine rhF.ck (fun h26 => ?_)
          refine rhF.iald (pc := 120) dX12_nextTight_120 h25 h26 ?_
          refine rhF.aload_n (pc := 121) dX12_nextTight_121 2 rfl ?_
          refine rhF.get (pc := 122) (rhR _) dX12_nextTight_122 fl_X12_132 h12 rfl ?_
          refine rhF.iload_n (pc := 125) dX12_nextTight_125 3 rfl ?_
          refine rhF.ck (fun h27 => ?_)
          refine rhF.iald (pc := 126) dX12_nextTight_126 h25 h27 ?_
          refine rhF.iload (pc := 127) dX12_nextTight_127 1 rfl ?_
          refine rhF.iadd (pc := 129) dX12_nextTight_129 ?_
          refine rhF.icmp_ne (pc := 130) 164 dX12_nextTight_130 (by decide) (fun h28 => ?_) (fun h28 => ?_)
          · refine rhF.aload_n (pc := 133) dX12_nextTight_133 2 rfl ?_
            refine rhF.get (pc := 134) (rhR _) dX12_nextTight_134 fl_X12_129 h12 rfl ?_
            refine rhF.iload (pc := 137) dX12_nextTight_137 0 rfl ?_
            refine rhF.ck (fun h29 => ?_)
            refine rhF.ck (fun h30 => ?_)
            refine rhF.iald (pc := 139) dX12_nextTight_139 h29 h30 ?_
            refine rhF.aload_n (pc := 140) dX12_nextTight_140 2 rfl ?_
            refine rhF.get (pc := 141) (rhR _) dX12_nextTight_141 fl_X12_129 h12 rfl ?_
            refine rhF.iload_n (pc := 144) dX12_nextTight_144 3 rfl ?_
            refine rhF.ck (fun h31 => ?_)
            refine rhF.iald (pc := 145) dX12_nextTight_145 h29 h31 ?_
            refine rhF.iconst (pc := 146) (v := 1) dX12_nextTight_146 (by decide) ?_
            refine rhF.iadd (pc := 147) dX12_nextTight_147 ?_
            refine rhF.icmp_ne (pc := 148) 164 dX12_nextTight_148 (by decide) (fun h32 => ?_) (fun h32 => ?_)
            · refine rhF.sub [4, 5, 6] rfl ?_
              exact hk151 _ _ _ _
            · refine rhF.sub [2, 3, 4, 5, 6] rfl ?_
              exact (b_X12_nextTight_164 ih) _ _ _ _ _ _
          · refine rhF.sub [2, 3, 4, 5, 6] rfl ?_
            exact (b_X12_nextTight_164 ih) _ _ _ _ _ _
    · refine rhF.sub [0, 1, 2, 3] rfl ?_
      exact hk170 _ _ _ _ _
set_option maxHeartbeats 4000000 in
set_option maxRecDepth 100000 in
theorem b_X12_nextTight_170 {E : rhE} {Γ : rhG} {k21 : rhM → Nat → Int32 → Int32 → Int32 → Option (Int32 × rhM)} (hk21 : ∀ (M : rhM) (v0 : Nat) (v1 : Int32) (v2 : Int32) (v3 : Int32), rhF E 9 7 yX12_nextTight cX12_nextTight (some .int) Γ (rhe1I Γ) (k21 M v0 v1 v2 v3) 21 [(0, rhR v0), (1, rhI v1), (2, rhI v2), (3, rhI v3)] [] Γ M) : ∀ (M : rhM) (v0 : Nat) (v1 : Int32) (v2 : Int32) (v3 : Int32), rhF E 9 7 yX12_nextTight cX12_nextTight (some .int) Γ (rhe1I Γ) (f_X12_nextTight_170 k21 Γ M v0 v1 v2 v3) 170 [(0, rhR v0), (1, rhI v1), (2, rhI v2), (3, rhI v3)] [] Γ M := by
  intro M v0 v1 v2 v3
  rw [f_X12_nextTight_170]
  refine rhF.iinc (pc := 170) (L' := [(3, rhI _), (0, rhR _), (1, rhI _), (2, rhI _)]) dX12_nextTight_170 3 rfl rfl (by decide) rfl ?_
  refine rhF.goto (pc := 173) 21 dX12_nextTight_173 (by decide) ?_
  refine rhF.sub [1, 2, 3, 0] rfl ?_
  exact hk21 _ _ _ _ _
set_option maxHeartbeats 4000000 in
set_option maxRecDepth 100000 in
theorem b_X12_nextTight_44 {E : rhE} {Γ : rhG} {k21 : rhM → Nat → Int32 → Int32 → Int32 → Option (Int32 × rhM)} {k151 : rhM → Int32 → Int32 → Int32 → Option (Int32 × rhM)} {k176 : rhM → Nat → Int32 → Int32 → Option (Int32 × rhM)} (hk21 : ∀ (M : rhM) (v0 : Nat) (v1 : Int32) (v2 : Int32) (v3 : Int32), rhF E 9 7 yX12_nextTight cX12_nextTight (some .int) Γ (rhe1I Γ) (k21 M v0 v1 v2 v3) 21 [(0, rhR v0), (1, rhI v1), (2, rhI v2), (3, rhI v3)] [] Γ M) (hk151 : ∀ (M : rhM) (v2 : Int32) (v3 : Int32) (v4 : Int32), rhF E 9 7 yX12_nextTight cX12_nextTight (some .int) Γ (rhe1I Γ) (k151 M v2 v3 v4) 151 [(2, rhI v2), (3, rhI v3), (4, rhI v4)] [] Γ M) (hk176 : ∀ (M : rhM) (v0 : Nat) (v1 : Int32) (v2 : Int32), rhF E 9 7 yX12_nextTight cX12_nextTight (some .int) Γ (rhe1I Γ) (k176 M v0 v1 v2) 176 [(0, rhR v0), (1, rhI v1), (2, rhI v2)] [] Γ M) : ∀ (M : rhM) (v0 : Nat) (v1 : Int32) (v2 : Int32) (v3 : Int32) (s0 : Int32) (s1 : Int32) (s2 : Int32), rhF E 9 7 yX12_nextTight cX12_nextTight (some .int) Γ (rhe1I Γ) (f_X12_nextTight_44 k21 k151 k176 Γ M v0 v1 v2 v3 s0 s1 s2) 44 [(0, rhR v0), (1, rhI v1), (2, rhI v2), (3, rhI v3)] [rhI s2, rhI s1, rhI s0] Γ M := by
  intro M v0 v1 v2 v3 s0 s1 s2
  rw [f_X12_nextTight_44]
  refine rhF.isub (pc := 44) dX12_nextTight_44 ?_
  refine rhF.icmp_gt (pc := 45) 176 dX12_nextTight_45 (by decide) (fun h11 => ?_) (fun h11 => ?_)
  · refine rhF.sub [0, 1, 2] rfl ?_
    exact hk176 _ _ _ _
  · refine rhF.iconst (pc := 48) (v := 0) dX12_nextTight_48 (by decide) ?_
    refine rhF.istore (pc := 49) (L' := [(4, rhI _), (0, rhR _), (1, rhI _), (2, rhI _), (3, rhI _)]) dX12_nextTight_49 (by decide) rfl ?_
    refine rhF.sub [1, 2, 3, 4, 0] rfl ?_
    exact (b_X12_nextTight_51 hk151 (b_X12_nextTight_170 hk21) rhFU) _ _ _ _ _ _
set_option maxHeartbeats 4000000 in
set_option maxRecDepth 100000 in
theorem b_X12_nextTight_21 {E : rhE} {Γ : rhG} {k151 : rhM → Int32 → Int32 → Int32 → Option (Int32 × rhM)} {k176 : rhM → Nat → Int32 → Int32 → Option (Int32 × rhM)} (hk151 : ∀ (M : rhM) (v2 : Int32) (v3 : Int32) (v4 : Int32), rhF E 9 7 yX12_nextTight cX12_nextTight (some .int) Γ (rhe1I Γ) (k151 M v2 v3 v4) 151 [(2, rhI v2), (3, rhI v3), (4, rhI v4)] [] Γ M) (hk176 : ∀ (M : rhM) (v0 : Nat) (v1 : Int32) (v2 : Int32), rhF E 9 7 yX12_nextTight cX12_nextTight (some .int) Γ (rhe1I Γ) (k176 M v0 v1 v2) 176 [(0, rhR v0), (1, rhI v1), (2, rhI v2)] [] Γ M) : ∀ (n : Nat) (M : rhM) (v0 : Nat) (v1 : Int32) (v2 : Int32) (v3 : Int32), rhF E 9 7 yX12_nextTight cX12_nextTight (some .int) Γ (rhe1I Γ) (f_X12_nextTight_21 k151 k176 Γ n M v0 v1 v2 v3) 21 [(0, rhR v0), (1, rhI v1), (2, rhI v2), (3, rhI v3)] [] Γ M := by
  intro n
  induction n with
  | zero => intro M v0 v1 v2 v3; rw [f_X12_nextTight_21]; exact rhF.nope
  | succ n ih =>
    intro M v0 v1 v2 v3
    rw [f_X12_nextTight_21]
    refine rhF.iload_n (pc := 21) dX12_nextTight_21 3 rfl ?_
    refine rhF.aload_n (pc := 22) dX12_nextTight_22 0 rfl ?_
    refine rhF.ck (fun h7 => ?_)
    refine rhF.get (pc := 23) (rhR _) dX12_nextTight_23 fl_X12_145 h7 rfl ?_
    refine rhF.iload_n (pc := 26) dX12_nextTight_26 2 rfl ?_
    refine rhF.ck (fun h8 => ?_)
    refine rhF.ck (fun h9 => ?_)
    refine rhF.iald (pc := 27) dX12_nextTight_27 h8 h9 ?_
    refine rhF.iload_n (pc := 28) dX12_nextTight_28 2 rfl ?_
    refine rhF.if_ne (pc := 29) 36 dX12_nextTight_29 (by decide) (fun h10 => ?_) (fun h10 => ?_)
    · refine rhF.iconst (pc := 32) (v := 0) dX12_nextTight_32 (by decide) ?_
      refine rhF.goto (pc := 33) 44 dX12_nextTight_33 (by decide) ?_
      exact (b_X12_nextTight_44 ih hk151 hk176) _ _ _ _ _ _ _ _
    · refine rhF.aload_n (pc := 36) dX12_nextTight_36 0 rfl ?_
      refine rhF.get (pc := 37) (rhR _) dX12_nextTight_37 fl_X12_145 h7 rfl ?_
      refine rhF.iload_n (pc := 40) dX12_nextTight_40 2 rfl ?_
      refine rhF.iconst (pc := 41) (v := 1) dX12_nextTight_41 (by decide) ?_
      refine rhF.isub (pc := 42) dX12_nextTight_42 ?_
      refine rhF.ck (fun h34 => ?_)
      refine rhF.iald (pc := 43) dX12_nextTight_43 h8 h34 ?_
      exact (b_X12_nextTight_44 ih hk151 hk176) _ _ _ _ _ _ _ _
set_option maxHeartbeats 4000000 in
set_option maxRecDepth 100000 in
theorem b_X12_nextTight_176 {E : rhE} {Γ : rhG} {k11 : rhM → Nat → Int32 → Int32 → Option (Int32 × rhM)} (hk11 : ∀ (M : rhM) (v0 : Nat) (v1 : Int32) (v2 : Int32), rhF E 9 7 yX12_nextTight cX12_nextTight (some .int) Γ (rhe1I Γ) (k11 M v0 v1 v2) 11 [(0, rhR v0), (1, rhI v1), (2, rhI v2)] [] Γ M) : ∀ (M : rhM) (v0 : Nat) (v1 : Int32) (v2 : Int32), rhF E 9 7 yX12_nextTight cX12_nextTight (some .int) Γ (rhe1I Γ) (f_X12_nextTight_176 k11 Γ M v0 v1 v2) 176 [(0, rhR v0), (1, rhI v1), (2, rhI v2)] [] Γ M := by
  intro M v0 v1 v2
  rw [f_X12_nextTight_176]
  refine rhF.iinc (pc := 176) (L' := [(2, rhI _), (0, rhR _), (1, rhI _)]) dX12_nextTight_176 2 rfl rfl (by decide) rfl ?_
  refine rhF.goto (pc := 179) 11 dX12_nextTight_179 (by decide) ?_
  refine rhF.sub [1, 2, 0] rfl ?_
  exact hk11 _ _ _ _
set_option maxHeartbeats 4000000 in
set_option maxRecDepth 100000 in
theorem b_X12_nextTight_11 {E : rhE} {Γ : rhG} {k151 : rhM → Int32 → Int32 → Int32 → Option (Int32 × rhM)} (hk151 : ∀ (M : rhM) (v2 : Int32) (v3 : Int32) (v4 : Int32), rhF E 9 7 yX12_nextTight cX12_nextTight (some .int) Γ (rhe1I Γ) (k151 M v2 v3 v4) 151 [(2, rhI v2), (3, rhI v3), (4, rhI v4)] [] Γ M) : ∀ (n : Nat) (M : rhM) (v0 : Nat) (v1 : Int32) (v2 : Int32), rhF E 9 7 yX12_nextTight cX12_nextTight (some .int) Γ (rhe1I Γ) (f_X12_nextTight_11 k151 Γ n M v0 v1 v2) 11 [(0, rhR v0), (1, rhI v1), (2, rhI v2)] [] Γ M := by
  intro n
  induction n with
  | zero => intro M v0 v1 v2; rw [f_X12_nextTight_11]; exact rhF.nope
  | succ n ih =>
    intro M v0 v1 v2
    rw [f_X12_nextTight_11]
    refine rhF.iload_n (pc := 11) dX12_nextTight_11 2 rfl ?_
    refine rhF.aload_n (pc := 12) dX12_nextTight_12 0 rfl ?_
    refine rhF.ck (fun h4 => ?_)
    refine rhF.callV (pc := 13) (ci := 12) (embc := rhe0I _ _) [] dX12_nextTight_13 ml_X12_412 mv_X12_railMany ⟨_, rfl, rfl⟩ h4 (c_X12_railMany _ _ _ _) (by decide) (by decide) rfl (Nat.le_of_ble_eq_true rfl) (fun r5 _ => ?_)
    refine rhF.icmp_ge (pc := 16) 182 dX12_nextTight_16 (by decide) (fun h6 => ?_) (fun h6 => ?_)
    · refine rhF.iconst (pc := 19) (v := 1) dX12_nextTight_19 (by decide) ?_
      refine rhF.istore_n (pc := 20) (L' := [(3, rhI _), (0, rhR _), (1, rhI _), (2, rhI _)]) dX12_nextTight_20 (by decide) rfl ?_
      refine rhF.sub [1, 2, 3, 0] rfl ?_
      exact (b_X12_nextTight_21 hk151 (b_X12_nextTight_176 ih) rhFU) _ _ _ _ _
    · refine rhF.iconst (pc := 182) (v := (-1)) dX12_nextTight_182 (by decide) ?_
      exact rhF.zret (pc := 183) dX12_nextTight_183 rfl rfl rfl
set_option maxHeartbeats 4000000 in
set_option maxRecDepth 100000 in
theorem b_X12_nextTight_151 {E : rhE} {Γ : rhG} : ∀ (M : rhM) (v2 : Int32) (v3 : Int32) (v4 : Int32), rhF E 9 7 yX12_nextTight cX12_nextTight (some .int) Γ (rhe1I Γ) (f_X12_nextTight_151 Γ M v2 v3 v4) 151 [(2, rhI v2), (3, rhI v3), (4, rhI v4)] [] Γ M := by
  intro M v2 v3 v4
  rw [f_X12_nextTight_151]
  refine rhF.bipush (pc := 151) (v := 100) dX12_nextTight_151 (by decide) ?_
  refine rhF.iload_n (pc := 153) dX12_nextTight_153 0 rfl ?_
  refine rhF.imul (pc := 154) dX12_nextTight_154 ?_
  refine rhF.bipush (pc := 155) (v := 10) dX12_nextTight_155 (by decide) ?_
  refine rhF.iload_n (pc := 157) dX12_nextTight_157 1 rfl ?_
  refine rhF.imul (pc := 158) dX12_nextTight_158 ?_
  refine rhF.iadd (pc := 159) dX12_nextTight_159 ?_
  refine rhF.iload (pc := 160) dX12_nextTight_160 2 rfl ?_
  refine rhF.iadd (pc := 162) dX12_nextTight_162 ?_
  exact rhF.zret (pc := 163) dX12_nextTight_163 rfl rfl rfl
set_option maxHeartbeats 4000000 in
set_option maxRecDepth 100000 in
theorem b_X12_nextTight {E : rhE} {Γ : rhG} : ∀ (M : rhM) (v0 : Nat) (v1 : Int32), rhF E 9 7 yX12_nextTight cX12_nextTight (some .int) Γ (rhe1I Γ) (f_X12_nextTight Γ M v0 v1) 0 [(0, rhR v0), (1, rhI v1)] [] Γ M := by
  intro M v0 v1
  rw [f_X12_nextTight]
  refine rhF.aload_n (pc := 0) dX12_nextTight_0 0 rfl ?_
  refine rhF.iload_n (pc := 1) dX12_nextTight_1 1 rfl ?_
  refine rhF.ck (fun h1 => ?_)
  refine rhF.callV (pc := 2) (ci := 12) (embc := rhe1U _) [rhI _] dX12_nextTight_2 ml_X12_499 mv_X12_layState ⟨_, rfl, rfl⟩ h1 (c_X12_layState _ _ _ _ _) (by decide) (by decide) rfl (Nat.le_of_ble_eq_true rfl) (fun r2 _ => ?_)
  refine rhF.aload_n (pc := 5) dX12_nextTight_5 0 rfl ?_
  refine rhF.callV (pc := 6) (ci := 12) (embc := rhe1U _) [] dX12_nextTight_6 ml_X12_509 mv_X12_keepAt ⟨_, rfl, rfl⟩ h1 (c_X12_keepAt _ _ _ _) (by decide) (by decide) rfl (Nat.le_of_ble_eq_true rfl) (fun r3 _ => ?_)
  refine rhF.iconst (pc := 9) (v := 0) dX12_nextTight_9 (by decide) ?_
  refine rhF.istore_n (pc := 10) (L' := [(2, rhI _), (0, rhR _), (1, rhI _)]) dX12_nextTight_10 (by decide) rfl ?_
  refine rhF.sub [1, 2, 0] rfl ?_
  exact (b_X12_nextTight_11 (b_X12_nextTight_151) rhFU) _ _ _ _
theorem c_X12_nextTight (E : rhE) (Γ : rhG) (M : rhM) (v0 : Nat) (v1 : Int32) : ∀ a, f_X12_nextTight Γ M v0 v1 = some a → rhC E 9 yX12_nextTight cX12_nextTight 7 (some .int) [rhR v0, rhI v1] Γ M ((rhe1I Γ) a) := rhF.met (by decide +kernel) (Nat.le_of_ble_eq_true rfl) (b_X12_nextTight M v0 v1)
def f_X12_keepNow_2 (k26 : rhM → Nat → Option (rhM)) (Γ : rhG) : Nat → rhM → Nat → Int32 → Option (rhM)
  | 0, _, _, _ => none
  | n + 1, M, v0, v1 =>
    if v1 < 8 then
      (rhck (Γ.2.2.1 v0 = 13) <|
      rhck (Γ.2.2.1 (M.2.2 v0 39) = 15) <|
      rhck (0 ≤ (v1).toInt ∧ (v1).toInt < (Γ.2.2.2 (M.2.2 v0 39) : Nat)) <|
      rhck (Γ.2.2.1 (M.2.2 v0 42) = 15) <|
      rhck (0 ≤ (v1).toInt ∧ (v1).toInt < (Γ.2.2.2 (M.2.2 v0 42) : Nat)) <|
      let M7 := rhsi M (M.2.2 v0 42) (v1 : Int32).toNatClampNeg (M.1 (M.2.2 v0 39) v1.toNatClampNeg)
      let x8 : Int32 := v1 + 1
      f_X12_keepNow_2 k26 Γ n M7 v0 x8)
    else
      k26 M v0
def f_X12_keepNow_28 (Γ : rhG) : Nat → rhM → Nat → Int32 → Option (rhM)
  | 0, _, _, _ => none
  | n + 1, M, v0, v1 =>
    if v1 < 5 then
      (rhck (Γ.2.2.1 v0 = 13) <|
      rhck (Γ.2.2.1 (M.2.2 v0 40) = 15) <|
      rhck (0 ≤ (v1).toInt ∧ (v1).toInt < (Γ.2.2.2 (M.2.2 v0 40) : Nat)) <|
      rhck (Γ.2.2.1 (M.2.2 v0 43) = 15) <|
      rhck (0 ≤ (v1).toInt ∧ (v1).toInt < (Γ.2.2.2 (M.2.2 v0 43) : Nat)) <|
      let M15 := rhsi M (M.2.2 v0 43) (v1 : Int32).toNatClampNeg (M.1 (M.2.2 v0 40) v1.toNatClampNeg)
      let x16 : Int32 := v1 + 1
      f_X12_keepNow_28 Γ n M15 v0 x16)
    else
      some M
def f_X12_keepNow_26 (Γ : rhG) (M : rhM) (v0 : Nat) : Option (rhM) :=
  f_X12_keepNow_28 Γ rhFU M v0 0
def f_X12_keepNow (Γ : rhG) (M : rhM) (v0 : Nat) : Option (rhM) :=
  f_X12_keepNow_2 (f_X12_keepNow_26 Γ) Γ rhFU M v0 0
set_option maxHeartbeats 4000000 in
set_option maxRecDepth 100000 in
theorem b_X12_keepNow_2 {E : rhE} {Γ : rhG} {k26 : rhM → Nat → Option (rhM)} (hk26 : ∀ (M : rhM) (v0 : Nat), rhF E 1 2 yX12_keepNow cX12_keepNow none Γ (rhe1U Γ) (k26 M v0) 26 [(0, rhR v0)] [] Γ M) : ∀ (n : Nat) (M : rhM) (v0 : Nat) (v1 : Int32), rhF E 1 2 yX12_keepNow cX12_keepNow none Γ (rhe1U Γ) (f_X12_keepNow_2 k26 Γ n M v0 v1) 2 [(0, rhR v0), (1, rhI v1)] [] Γ M := by
  intro n
  induction n with
  | zero => intro M v0 v1; rw [f_X12_keepNow_2]; exact rhF.nope
  | succ n ih =>
    intro M v0 v1
    rw [f_X12_keepNow_2]
    refine rhF.iload_n (pc := 2) dX12_keepNow_2 1 rfl ?_
    refine rhF.bipush (pc := 3) (v := 8) dX12_keepNow_3 (by decide) ?_
    refine rhF.icmp_ge (pc := 5) 26 dX12_keepNow_5 (by decide) (fun h1 => ?_) (fun h1 => ?_)
    · refine rhF.aload_n (pc := 8) dX12_keepNow_8 0 rfl ?_
      refine rhF.ck (fun h2 => ?_)
      refine rhF.get (pc := 9) (rhR _) dX12_keepNow_9 fl_X12_101 h2 rfl ?_
      refine rhF.iload_n (pc := 12) dX12_keepNow_12 1 rfl ?_
      refine rhF.aload_n (pc := 13) dX12_keepNow_13 0 rfl ?_
      refine rhF.get (pc := 14) (rhR _) dX12_keepNow_14 fl_X12_92 h2 rfl ?_
      refine rhF.iload_n (pc := 17) dX12_keepNow_17 1 rfl ?_
      refine rhF.ck (fun h3 => ?_)
      refine rhF.ck (fun h4 => ?_)
      refine rhF.iald (pc := 18) dX12_keepNow_18 h3 h4 ?_
      refine rhF.ck (fun h5 => ?_)
      refine rhF.ck (fun h6 => ?_)
      refine rhF.iast (pc := 19) dX12_keepNow_19 h5 h6 ?_
      refine rhF.iinc (pc := 20) (L' := [(1, rhI _), (0, rhR _)]) dX12_keepNow_20 1 rfl rfl (by decide) rfl ?_
      refine rhF.goto (pc := 23) 2 dX12_keepNow_23 (by decide) ?_
      refine rhF.sub [1, 0] rfl ?_
      exact ih _ _ _
    · refine rhF.sub [0] rfl ?_
      exact hk26 _ _
set_option maxHeartbeats 4000000 in
set_option maxRecDepth 100000 in
theorem b_X12_keepNow_28 {E : rhE} {Γ : rhG} : ∀ (n : Nat) (M : rhM) (v0 : Nat) (v1 : Int32), rhF E 1 2 yX12_keepNow cX12_keepNow none Γ (rhe1U Γ) (f_X12_keepNow_28 Γ n M v0 v1) 28 [(0, rhR v0), (1, rhI v1)] [] Γ M := by
  intro n
  induction n with
  | zero => intro M v0 v1; rw [f_X12_keepNow_28]; exact rhF.nope
  | succ n ih =>
    intro M v0 v1
    rw [f_X12_keepNow_28]
    refine rhF.iload_n (pc := 28) dX12_keepNow_28 1 rfl ?_
    refine rhF.iconst (pc := 29) (v := 5) dX12_keepNow_29 (by decide) ?_
    refine rhF.icmp_ge (pc := 30) 51 dX12_keepNow_30 (by decide) (fun h9 => ?_) (fun h9 => ?_)
    · refine rhF.aload_n (pc := 33) dX12_keepNow_33 0 rfl ?_
      refine rhF.ck (fun h10 => ?_)
      refine rhF.get (pc := 34) (rhR _) dX12_keepNow_34 fl_X12_104 h10 rfl ?_
      refine rhF.iload_n (pc := 37) dX12_keepNow_37 1 rfl ?_
      refine rhF.aload_n (pc := 38) dX12_keepNow_38 0 rfl ?_
      refine rhF.get (pc := 39) (rhR _) dX12_keepNow_39 fl_X12_95 h10 rfl ?_
      refine rhF.iload_n (pc := 42) dX12_keepNow_42 1 rfl ?_
      refine rhF.ck (fun h11 => ?_)
      refine rhF.ck (fun h12 => ?_)
      refine rhF.iald (pc := 43) dX12_keepNow_43 h11 h12 ?_
      refine rhF.ck (fun h13 => ?_)
      refine rhF.ck (fun h14 => ?_)
      refine rhF.iast (pc := 44) dX12_keepNow_44 h13 h14 ?_
      refine rhF.iinc (pc := 45) (L' := [(1, rhI _), (0, rhR _)]) dX12_keepNow_45 1 rfl rfl (by decide) rfl ?_
      refine rhF.goto (pc := 48) 28 dX12_keepNow_48 (by decide) ?_
      refine rhF.sub [1, 0] rfl ?_
      exact ih _ _ _
    · exact rhF.vret (pc := 51) dX12_keepNow_51 rfl rfl
set_option maxHeartbeats 4000000 in
set_option maxRecDepth 100000 in
theorem b_X12_keepNow_26 {E : rhE} {Γ : rhG} : ∀ (M : rhM) (v0 : Nat), rhF E 1 2 yX12_keepNow cX12_keepNow none Γ (rhe1U Γ) (f_X12_keepNow_26 Γ M v0) 26 [(0, rhR v0)] [] Γ M := by
  intro M v0
  rw [f_X12_keepNow_26]
  refine rhF.iconst (pc := 26) (v := 0) dX12_keepNow_26 (by decide) ?_
  refine rhF.istore_n (pc := 27) (L' := [(1, rhI _), (0, rhR _)]) dX12_keepNow_27 (by decide) rfl ?_
  refine rhF.sub [1, 0] rfl ?_
  exact (b_X12_keepNow_28 rhFU) _ _ _
set_option maxHeartbeats 4000000 in
set_option maxRecDepth 100000 in
theorem b_X12_keepNow {E : rhE} {Γ : rhG} : ∀ (M : rhM) (v0 : Nat), rhF E 1 2 yX12_keepNow cX12_keepNow none Γ (rhe1U Γ) (f_X12_keepNow Γ M v0) 0 [(0, rhR v0)] [] Γ M := by
  intro M v0
  rw [f_X12_keepNow]
  refine rhF.iconst (pc := 0) (v := 0) dX12_keepNow_0 (by decide) ?_
  refine rhF.istore_n (pc := 1) (L' := [(1, rhI _), (0, rhR _)]) dX12_keepNow_1 (by decide) rfl ?_
  refine rhF.sub [1, 0] rfl ?_
  exact (b_X12_keepNow_2 (b_X12_keepNow_26) rhFU) _ _ _
theorem c_X12_keepNow (E : rhE) (Γ : rhG) (M : rhM) (v0 : Nat) : ∀ a, f_X12_keepNow Γ M v0 = some a → rhC E 1 yX12_keepNow cX12_keepNow 2 none [rhR v0] Γ M ((rhe1U Γ) a) := rhF.met (by decide +kernel) (Nat.le_of_ble_eq_true rfl) (b_X12_keepNow M v0)
def f_X12_layFirst_53 (k14 : rhM → Nat → Int32 → Int32 → Int32 → Option (rhM)) (Γ : rhG) (M : rhM) (v0 : Nat) (v1 : Int32) (v2 : Int32) (v3 : Int32) : Option (rhM) :=
  let x14 : Int32 := v3 + 1
  k14 M v0 v1 v2 x14
def f_X12_layFirst_14 (k59 : rhM → Nat → Int32 → Int32 → Option (rhM)) (Γ : rhG) : Nat → rhM → Nat → Int32 → Int32 → Int32 → Option (rhM)
  | 0, _, _, _, _, _ => none
  | n + 1, M, v0, v1, v2, v3 =>
    rhck (Γ.2.2.1 v0 = 13) <|
    (f_X12_houseMany Γ M v0).bind fun r5 =>
    if v3 < r5 then
      (rhck (Γ.2.2.1 (M.2.2 v0 21) = 15) <|
      rhck (0 ≤ ((8 * (M.1 v0 34)) + v3).toInt ∧ ((8 * (M.1 v0 34)) + v3).toInt < (Γ.2.2.2 (M.2.2 v0 21) : Nat)) <|
      if (M.1 (M.2.2 v0 21) ((8 * (M.1 v0 34)) + v3).toNatClampNeg) = v2 then
        (rhck (Γ.2.2.1 (M.2.2 v0 39) = 15) <|
        rhck (0 ≤ (v1).toInt ∧ (v1).toInt < (Γ.2.2.2 (M.2.2 v0 39) : Nat)) <|
        let M12 := rhsi M (M.2.2 v0 39) (v1 : Int32).toNatClampNeg v3
        let x13 : Int32 := v1 + 1
        f_X12_layFirst_53 (f_X12_layFirst_14 k59 Γ n) Γ M12 v0 x13 v2 v3)
      else
        f_X12_layFirst_53 (f_X12_layFirst_14 k59 Γ n) Γ M v0 v1 v2 v3)
    else
      k59 M v0 v1 v2
def f_X12_layFirst_59 (k4 : rhM → Nat → Int32 → Int32 → Option (rhM)) (Γ : rhG) (M : rhM) (v0 : Nat) (v1 : Int32) (v2 : Int32) : Option (rhM) :=
  rhck (Γ.2.2.1 v0 = 13) <|
  rhck (Γ.2.2.1 (M.2.2 v0 40) = 15) <|
  rhck (0 ≤ (v2).toInt ∧ (v2).toInt < (Γ.2.2.2 (M.2.2 v0 40) : Nat)) <|
  let M18 := rhsi M (M.2.2 v0 40) (v2 : Int32).toNatClampNeg v1
  let x19 : Int32 := v2 + 1
  k4 M18 v0 v1 x19
def f_X12_layFirst_4 (Γ : rhG) : Nat → rhM → Nat → Int32 → Int32 → Option (rhM)
  | 0, _, _, _, _ => none
  | n + 1, M, v0, v1, v2 =>
    rhck (Γ.2.2.1 v0 = 13) <|
    (f_X12_railMany Γ M v0).bind fun r2 =>
    if v2 < r2 then
      (f_X12_layFirst_14 (f_X12_layFirst_59 (f_X12_layFirst_4 Γ n) Γ) Γ rhFU M v0 v1 v2 0)
    else
      some M
def f_X12_layFirst (Γ : rhG) (M : rhM) (v0 : Nat) : Option (rhM) :=
  f_X12_layFirst_4 Γ rhFU M v0 0 0
set_option maxHeartbeats 4000000 in
set_option maxRecDepth 100000 in
theorem b_X12_layFirst_53 {E : rhE} {Γ : rhG} {k14 : rhM → Nat → Int32 → Int32 → Int32 → Option (rhM)} (hk14 : ∀ (M : rhM) (v0 : Nat) (v1 : Int32) (v2 : Int32) (v3 : Int32), rhF E 5 4 yX12_layFirst cX12_layFirst none Γ (rhe1U Γ) (k14 M v0 v1 v2 v3) 14 [(0, rhR v0), (1, rhI v1), (2, rhI v2), (3, rhI v3)] [] Γ M) : ∀ (M : rhM) (v0 : Nat) (v1 : Int32) (v2 : Int32) (v3 : Int32), rhF E 5 4 yX12_layFirst cX12_layFirst none Γ (rhe1U Γ) (f_X12_layFirst_53 k14 Γ M v0 v1 v2 v3) 53 [(0, rhR v0), (1, rhI v1), (2, rhI v2), (3, rhI v3)] [] Γ M := by
  intro M v0 v1 v2 v3
  rw [f_X12_layFirst_53]
  refine rhF.iinc (pc := 53) (L' := [(3, rhI _), (0, rhR _), (1, rhI _), (2, rhI _)]) dX12_layFirst_53 3 rfl rfl (by decide) rfl ?_
  refine rhF.goto (pc := 56) 14 dX12_layFirst_56 (by decide) ?_
  refine rhF.sub [1, 2, 3, 0] rfl ?_
  exact hk14 _ _ _ _ _
set_option maxHeartbeats 4000000 in
set_option maxRecDepth 100000 in
theorem b_X12_layFirst_14 {E : rhE} {Γ : rhG} {k59 : rhM → Nat → Int32 → Int32 → Option (rhM)} (hk59 : ∀ (M : rhM) (v0 : Nat) (v1 : Int32) (v2 : Int32), rhF E 5 4 yX12_layFirst cX12_layFirst none Γ (rhe1U Γ) (k59 M v0 v1 v2) 59 [(0, rhR v0), (1, rhI v1), (2, rhI v2)] [] Γ M) : ∀ (n : Nat) (M : rhM) (v0 : Nat) (v1 : Int32) (v2 : Int32) (v3 : Int32), rhF E 5 4 yX12_layFirst cX12_layFirst none Γ (rhe1U Γ) (f_X12_layFirst_14 k59 Γ n M v0 v1 v2 v3) 14 [(0, rhR v0), (1, rhI v1), (2, rhI v2), (3, rhI v3)] [] Γ M := by
  intro n
  induction n with
  | zero => intro M v0 v1 v2 v3; rw [f_X12_layFirst_14]; exact rhF.nope
  | succ n ih =>
    intro M v0 v1 v2 v3
    rw [f_X12_layFirst_14]
    refine rhF.iload_n (pc := 14) dX12_layFirst_14 3 rfl ?_
    refine rhF.aload_n (pc := 15) dX12_layFirst_15 0 rfl ?_
    refine rhF.ck (fun h4 => ?_)
    refine rhF.callV (pc := 16) (ci := 12) (embc := rhe0I _ _) [] dX12_layFirst_16 ml_X12_419 mv_X12_houseMany ⟨_, rfl, rfl⟩ h4 (c_X12_houseMany _ _ _ _) (by decide) (by decide) rfl (Nat.le_of_ble_eq_true rfl) (fun r5 _ => ?_)
    refine rhF.icmp_ge (pc := 19) 59 dX12_layFirst_19 (by decide) (fun h6 => ?_) (fun h6 => ?_)
    · refine rhF.aload_n (pc := 22) dX12_layFirst_22 0 rfl ?_
      refine rhF.get (pc := 23) (rhR _) dX12_layFirst_23 fl_X12_51 h4 rfl ?_
      refine rhF.bipush (pc := 26) (v := 8) dX12_layFirst_26 (by decide) ?_
      refine rhF.aload_n (pc := 28) dX12_layFirst_28 0 rfl ?_
      refine rhF.get (pc := 29) (rhI _) dX12_layFirst_29 fl_X12_327 h4 rfl ?_
      refine rhF.imul (pc := 32) dX12_layFirst_32 ?_
      refine rhF.iload_n (pc := 33) dX12_layFirst_33 3 rfl ?_
      refine rhF.iadd (pc := 34) dX12_layFirst_34 ?_
      refine rhF.ck (fun h7 => ?_)
      refine rhF.ck (fun h8 => ?_)
      refine rhF.iald (pc := 35) dX12_layFirst_35 h7 h8 ?_
      refine rhF.iload_n (pc := 36) dX12_layFirst_36 2 rfl ?_
      refine rhF.icmp_eq (pc := 37) 43 dX12_layFirst_37 (by decide) (fun h9 => ?_) (fun h9 => ?_)
      · refine rhF.aload_n (pc := 43) dX12_layFirst_43 0 rfl ?_
        refine rhF.get (pc := 44) (rhR _) dX12_layFirst_44 fl_X12_92 h4 rfl ?_
        refine rhF.iload_n (pc := 47) dX12_layFirst_47 1 rfl ?_
        refine rhF.iload_n (pc := 48) dX12_layFirst_48 3 rfl ?_
        refine rhF.ck (fun h10 => ?_)
        refine rhF.ck (fun h11 => ?_)
        refine rhF.iast (pc := 49) dX12_layFirst_49 h10 h11 ?_
        refine rhF.iinc (pc := 50) (L' := [(1, rhI _), (0, rhR _), (2, rhI _), (3, rhI _)]) dX12_layFirst_50 1 rfl rfl (by decide) rfl ?_
        refine rhF.sub [1, 0, 2, 3] rfl ?_
        exact (b_X12_layFirst_53 ih) _ _ _ _ _
      · refine rhF.goto (pc := 40) 53 dX12_layFirst_40 (by decide) ?_
        exact (b_X12_layFirst_53 ih) _ _ _ _ _
    · refine rhF.sub [0, 1, 2] rfl ?_
      exact hk59 _ _ _ _
set_option maxHeartbeats 4000000 in
set_option maxRecDepth 100000 in
theorem b_X12_layFirst_59 {E : rhE} {Γ : rhG} {k4 : rhM → Nat → Int32 → Int32 → Option (rhM)} (hk4 : ∀ (M : rhM) (v0 : Nat) (v1 : Int32) (v2 : Int32), rhF E 5 4 yX12_layFirst cX12_layFirst none Γ (rhe1U Γ) (k4 M v0 v1 v2) 4 [(0, rhR v0), (1, rhI v1), (2, rhI v2)] [] Γ M) : ∀ (M : rhM) (v0 : Nat) (v1 : Int32) (v2 : Int32), rhF E 5 4 yX12_layFirst cX12_layFirst none Γ (rhe1U Γ) (f_X12_layFirst_59 k4 Γ M v0 v1 v2) 59 [(0, rhR v0), (1, rhI v1), (2, rhI v2)] [] Γ M := by
  intro M v0 v1 v2
  rw [f_X12_layFirst_59]
  refine rhF.aload_n (pc := 59) dX12_layFirst_59 0 rfl ?_
  refine rhF.ck (fun h15 => ?_)
  refine rhF.get (pc := 60) (rhR _) dX12_layFirst_60 fl_X12_95 h15 rfl ?_
  refine rhF.iload_n (pc := 63) dX12_layFirst_63 2 rfl ?_
  refine rhF.iload_n (pc := 64) dX12_layFirst_64 1 rfl ?_
  refine rhF.ck (fun h16 => ?_)
  refine rhF.ck (fun h17 => ?_)
  refine rhF.iast (pc := 65) dX12_layFirst_65 h16 h17 ?_
  refine rhF.iinc (pc := 66) (L' := [(2, rhI _), (0, rhR _), (1, rhI _)]) dX12_layFirst_66 2 rfl rfl (by decide) rfl ?_
  refine rhF.goto (pc := 69) 4 dX12_layFirst_69 (by decide) ?_
  refine rhF.sub [1, 2, 0] rfl ?_
  exact hk4 _ _ _ _
set_option maxHeartbeats 4000000 in
set_option maxRecDepth 100000 in
theorem b_X12_layFirst_4 {E : rhE} {Γ : rhG} : ∀ (n : Nat) (M : rhM) (v0 : Nat) (v1 : Int32) (v2 : Int32), rhF E 5 4 yX12_layFirst cX12_layFirst none Γ (rhe1U Γ) (f_X12_layFirst_4 Γ n M v0 v1 v2) 4 [(0, rhR v0), (1, rhI v1), (2, rhI v2)] [] Γ M := by
  intro n
  induction n with
  | zero => intro M v0 v1 v2; rw [f_X12_layFirst_4]; exact rhF.nope
  | succ n ih =>
    intro M v0 v1 v2
    rw [f_X12_layFirst_4]
    refine rhF.iload_n (pc := 4) dX12_layFirst_4 2 rfl ?_
    refine rhF.aload_n (pc := 5) dX12_layFirst_5 0 rfl ?_
    refine rhF.ck (fun h1 => ?_)
    refine rhF.callV (pc := 6) (ci := 12) (embc := rhe0I _ _) [] dX12_layFirst_6 ml_X12_412 mv_X12_railMany ⟨_, rfl, rfl⟩ h1 (c_X12_railMany _ _ _ _) (by decide) (by decide) rfl (Nat.le_of_ble_eq_true rfl) (fun r2 _ => ?_)
    refine rhF.icmp_ge (pc := 9) 72 dX12_layFirst_9 (by decide) (fun h3 => ?_) (fun h3 => ?_)
    · refine rhF.iconst (pc := 12) (v := 0) dX12_layFirst_12 (by decide) ?_
      refine rhF.istore_n (pc := 13) (L' := [(3, rhI _), (0, rhR _), (1, rhI _), (2, rhI _)]) dX12_layFirst_13 (by decide) rfl ?_
      refine rhF.sub [1, 2, 3, 0] rfl ?_
      exact (b_X12_layFirst_14 (b_X12_layFirst_59 ih) rhFU) _ _ _ _ _
    · exact rhF.vret (pc := 72) dX12_layFirst_72 rfl rfl
set_option maxHeartbeats 4000000 in
set_option maxRecDepth 100000 in
theorem b_X12_layFirst {E : rhE} {Γ : rhG} : ∀ (M : rhM) (v0 : Nat), rhF E 5 4 yX12_layFirst cX12_layFirst none Γ (rhe1U Γ) (f_X12_layFirst Γ M v0) 0 [(0, rhR v0)] [] Γ M := by
  intro M v0
  rw [f_X12_layFirst]
  refine rhF.iconst (pc := 0) (v := 0) dX12_layFirst_0 (by decide) ?_
  refine rhF.istore_n (pc := 1) (L' := [(1, rhI _), (0, rhR _)]) dX12_layFirst_1 (by decide) rfl ?_
  refine rhF.iconst (pc := 2) (v := 0) dX12_layFirst_2 (by decide) ?_
  refine rhF.istore_n (pc := 3) (L' := [(2, rhI _), (1, rhI _), (0, rhR _)]) dX12_layFirst_3 (by decide) rfl ?_
  refine rhF.sub [2, 1, 0] rfl ?_
  exact (b_X12_layFirst_4 rhFU) _ _ _ _
theorem c_X12_layFirst (E : rhE) (Γ : rhG) (M : rhM) (v0 : Nat) : ∀ a, f_X12_layFirst Γ M v0 = some a → rhC E 5 yX12_layFirst cX12_layFirst 4 none [rhR v0] Γ M ((rhe1U Γ) a) := rhF.met (by decide +kernel) (Nat.le_of_ble_eq_true rfl) (b_X12_layFirst M v0)
def f_X12_begin (Γ : rhG) (M : rhM) (v0 : Nat) : Option (rhM) :=
  rhck (Γ.2.2.1 v0 = 13) <|
  (f_X12_layFirst Γ M v0).bind fun r2 =>
  (f_X12_keepNow Γ r2 v0).bind fun r3 =>
  let M4 := rhsi r3 v0 48 0
  let M5 := rhsi M4 v0 49 0
  some M5
set_option maxHeartbeats 4000000 in
set_option maxRecDepth 100000 in
theorem b_X12_begin {E : rhE} {Γ : rhG} : ∀ (M : rhM) (v0 : Nat), rhF E 6 1 yX12_begin cX12_begin none Γ (rhe1U Γ) (f_X12_begin Γ M v0) 0 [(0, rhR v0)] [] Γ M := by
  intro M v0
  rw [f_X12_begin]
  refine rhF.aload_n (pc := 0) dX12_begin_0 0 rfl ?_
  refine rhF.ck (fun h1 => ?_)
  refine rhF.callV (pc := 1) (ci := 12) (embc := rhe1U _) [] dX12_begin_1 ml_X12_452 mv_X12_layFirst ⟨_, rfl, rfl⟩ h1 (c_X12_layFirst _ _ _ _) (by decide) (by decide) rfl (Nat.le_of_ble_eq_true rfl) (fun r2 _ => ?_)
  refine rhF.aload_n (pc := 4) dX12_begin_4 0 rfl ?_
  refine rhF.callV (pc := 5) (ci := 12) (embc := rhe1U _) [] dX12_begin_5 ml_X12_455 mv_X12_keepNow ⟨_, rfl, rfl⟩ h1 (c_X12_keepNow _ _ _ _) (by decide) (by decide) rfl (Nat.le_of_ble_eq_true rfl) (fun r3 _ => ?_)
  refine rhF.aload_n (pc := 8) dX12_begin_8 0 rfl ?_
  refine rhF.iconst (pc := 9) (v := 0) dX12_begin_9 (by decide) ?_
  refine rhF.puti (pc := 10) dX12_begin_10 fl_X12_458 h1 (fun q hq => by cases hq; exact Or.inl rfl) ⟨rfl, rfl⟩ (fun _ => rfl) ?_
  refine rhF.aload_n (pc := 13) dX12_begin_13 0 rfl ?_
  refine rhF.iconst (pc := 14) (v := 0) dX12_begin_14 (by decide) ?_
  refine rhF.puti (pc := 15) dX12_begin_15 fl_X12_461 h1 (fun q hq => by cases hq; exact Or.inl rfl) ⟨rfl, rfl⟩ (fun _ => rfl) ?_
  exact rhF.vret (pc := 18) dX12_begin_18 rfl rfl
theorem c_X12_begin (E : rhE) (Γ : rhG) (M : rhM) (v0 : Nat) : ∀ a, f_X12_begin Γ M v0 = some a → rhC E 6 yX12_begin cX12_begin 1 none [rhR v0] Γ M ((rhe1U Γ) a) := rhF.met (by decide +kernel) (Nat.le_of_ble_eq_true rfl) (b_X12_begin M v0)
def f_X12_clearBank_127 (Γ : rhG) : Nat → rhM → Nat → Int32 → Option (rhM)
  | 0, _, _, _ => none
  | n + 1, M, v0, v1 =>
    rhck (Γ.2.2.1 v0 = 13) <|
    if v1 < ((64 * (M.1 v0 35)) + 64) then
      (rhck (Γ.2.2.1 (M.2.2 v0 22) = 15) <|
      rhck (0 ≤ (v1).toInt ∧ (v1).toInt < (Γ.2.2.2 (M.2.2 v0 22) : Nat)) <|
      let M38 := rhsi M (M.2.2 v0 22) (v1 : Int32).toNatClampNeg 0
      rhck (Γ.2.2.1 (M.2.2 v0 26) = 17) <|
      rhck (0 ≤ (v1).toInt ∧ (v1).toInt < (Γ.2.2.2 (M.2.2 v0 26) : Nat)) <|
      let M41 := rhsi M38 (M.2.2 v0 26) (v1 : Int32).toNatClampNeg (vp_nar .boolean 0)
      let x42 : Int32 := v1 + 1
      f_X12_clearBank_127 Γ n M41 v0 x42)
    else
      some M
def f_X12_clearBank (Γ : rhG) (M : rhM) (v0 : Nat) : Option (rhM) :=
  rhck (Γ.2.2.1 v0 = 13) <|
  rhck (Γ.2.2.1 (M.2.2 v0 11) = 15) <|
  rhck (0 ≤ (M.1 v0 35).toInt ∧ (M.1 v0 35).toInt < (Γ.2.2.2 (M.2.2 v0 11) : Nat)) <|
  let M4 := rhsi M (M.2.2 v0 11) (M.1 v0 35 : Int32).toNatClampNeg 0
  rhck (Γ.2.2.1 (M.2.2 v0 12) = 15) <|
  rhck (0 ≤ (M4.1 v0 35).toInt ∧ (M4.1 v0 35).toInt < (Γ.2.2.2 (M.2.2 v0 12) : Nat)) <|
  let M7 := rhsi M4 (M.2.2 v0 12) (M4.1 v0 35 : Int32).toNatClampNeg 0
  rhck (Γ.2.2.1 (M.2.2 v0 13) = 15) <|
  rhck (0 ≤ (M7.1 v0 35).toInt ∧ (M7.1 v0 35).toInt < (Γ.2.2.2 (M.2.2 v0 13) : Nat)) <|
  let M10 := rhsi M7 (M.2.2 v0 13) (M7.1 v0 35 : Int32).toNatClampNeg 0
  rhck (Γ.2.2.1 (M.2.2 v0 14) = 15) <|
  rhck (0 ≤ (M10.1 v0 35).toInt ∧ (M10.1 v0 35).toInt < (Γ.2.2.2 (M.2.2 v0 14) : Nat)) <|
  let M13 := rhsi M10 (M.2.2 v0 14) (M10.1 v0 35 : Int32).toNatClampNeg 0
  rhck (Γ.2.2.1 (M.2.2 v0 15) = 15) <|
  rhck (0 ≤ (M13.1 v0 35).toInt ∧ (M13.1 v0 35).toInt < (Γ.2.2.2 (M.2.2 v0 15) : Nat)) <|
  let M16 := rhsi M13 (M.2.2 v0 15) (M13.1 v0 35 : Int32).toNatClampNeg 999
  rhck (Γ.2.2.1 (M.2.2 v0 16) = 15) <|
  rhck (0 ≤ (M16.1 v0 35).toInt ∧ (M16.1 v0 35).toInt < (Γ.2.2.2 (M.2.2 v0 16) : Nat)) <|
  let M19 := rhsi M16 (M.2.2 v0 16) (M16.1 v0 35 : Int32).toNatClampNeg 999
  rhck (Γ.2.2.1 (M.2.2 v0 23) = 17) <|
  rhck (0 ≤ (M19.1 v0 35).toInt ∧ (M19.1 v0 35).toInt < (Γ.2.2.2 (M.2.2 v0 23) : Nat)) <|
  let M22 := rhsi M19 (M.2.2 v0 23) (M19.1 v0 35 : Int32).toNatClampNeg (vp_nar .boolean 0)
  rhck (Γ.2.2.1 (M.2.2 v0 24) = 17) <|
  rhck (0 ≤ (M22.1 v0 35).toInt ∧ (M22.1 v0 35).toInt < (Γ.2.2.2 (M.2.2 v0 24) : Nat)) <|
  let M25 := rhsi M22 (M.2.2 v0 24) (M22.1 v0 35 : Int32).toNatClampNeg (vp_nar .boolean 0)
  rhck (Γ.2.2.1 (M.2.2 v0 25) = 17) <|
  rhck (0 ≤ (M25.1 v0 35).toInt ∧ (M25.1 v0 35).toInt < (Γ.2.2.2 (M.2.2 v0 25) : Nat)) <|
  let M28 := rhsi M25 (M.2.2 v0 25) (M25.1 v0 35 : Int32).toNatClampNeg (vp_nar .boolean 0)
  let M29 := rhsi M28 v0 36 (500 * (M28.1 v0 35))
  rhck (Γ.2.2.1 (M.2.2 v0 17) = 15) <|
  rhck (0 ≤ (M29.1 v0 35).toInt ∧ (M29.1 v0 35).toInt < (Γ.2.2.2 (M.2.2 v0 17) : Nat)) <|
  let M32 := rhsi M29 (M.2.2 v0 17) (M29.1 v0 35 : Int32).toNatClampNeg (M29.1 v0 36)
  let x33 := 64 * (M32.1 v0 35)
  f_X12_clearBank_127 Γ rhFU M32 v0 x33
set_option maxHeartbeats 4000000 in
set_option maxRecDepth 100000 in
theorem b_X12_clearBank_127 {E : rhE} {Γ : rhG} : ∀ (n : Nat) (M : rhM) (v0 : Nat) (v1 : Int32), rhF E 1 2 yX12_clearBank cX12_clearBank none Γ (rhe1U Γ) (f_X12_clearBank_127 Γ n M v0 v1) 127 [(0, rhR v0), (1, rhI v1)] [] Γ M := by
  intro n
  induction n with
  | zero => intro M v0 v1; rw [f_X12_clearBank_127]; exact rhF.nope
  | succ n ih =>
    intro M v0 v1
    rw [f_X12_clearBank_127]
    refine rhF.iload_n (pc := 127) dX12_clearBank_127 1 rfl ?_
    refine rhF.bipush (pc := 128) (v := 64) dX12_clearBank_128 (by decide) ?_
    refine rhF.aload_n (pc := 130) dX12_clearBank_130 0 rfl ?_
    refine rhF.ck (fun h34 => ?_)
    refine rhF.get (pc := 131) (rhI _) dX12_clearBank_131 fl_X12_318 h34 rfl ?_
    refine rhF.imul (pc := 134) dX12_clearBank_134 ?_
    refine rhF.bipush (pc := 135) (v := 64) dX12_clearBank_135 (by decide) ?_
    refine rhF.iadd (pc := 137) dX12_clearBank_137 ?_
    refine rhF.icmp_ge (pc := 138) 161 dX12_clearBank_138 (by decide) (fun h35 => ?_) (fun h35 => ?_)
    · refine rhF.aload_n (pc := 141) dX12_clearBank_141 0 rfl ?_
      refine rhF.get (pc := 142) (rhR _) dX12_clearBank_142 fl_X12_54 h34 rfl ?_
      refine rhF.iload_n (pc := 145) dX12_clearBank_145 1 rfl ?_
      refine rhF.iconst (pc := 146) (v := 0) dX12_clearBank_146 (by decide) ?_
      refine rhF.ck (fun h36 => ?_)
      refine rhF.ck (fun h37 => ?_)
      refine rhF.iast (pc := 147) dX12_clearBank_147 h36 h37 ?_
      refine rhF.aload_n (pc := 148) dX12_clearBank_148 0 rfl ?_
      refine rhF.get (pc := 149) (rhR _) dX12_clearBank_149 fl_X12_67 h34 rfl ?_
      refine rhF.iload_n (pc := 152) dX12_clearBank_152 1 rfl ?_
      refine rhF.iconst (pc := 153) (v := 0) dX12_clearBank_153 (by decide) ?_
      refine rhF.ck (fun h39 => ?_)
      refine rhF.ck (fun h40 => ?_)
      refine rhF.zast (pc := 154) dX12_clearBank_154 h39 h40 ?_
      refine rhF.iinc (pc := 155) (L' := [(1, rhI _), (0, rhR _)]) dX12_clearBank_155 1 rfl rfl (by decide) rfl ?_
      refine rhF.goto (pc := 158) 127 dX12_clearBank_158 (by decide) ?_
      refine rhF.sub [1, 0] rfl ?_
      exact ih _ _ _
    · exact rhF.vret (pc := 161) dX12_clearBank_161 rfl rfl
set_option maxHeartbeats 4000000 in
set_option maxRecDepth 100000 in
theorem b_X12_clearBank {E : rhE} {Γ : rhG} : ∀ (M : rhM) (v0 : Nat), rhF E 1 2 yX12_clearBank cX12_clearBank none Γ (rhe1U Γ) (f_X12_clearBank Γ M v0) 0 [(0, rhR v0)] [] Γ M := by
  intro M v0
  rw [f_X12_clearBank]
  refine rhF.aload_n (pc := 0) dX12_clearBank_0 0 rfl ?_
  refine rhF.ck (fun h1 => ?_)
  refine rhF.get (pc := 1) (rhR _) dX12_clearBank_1 fl_X12_20 h1 rfl ?_
  refine rhF.aload_n (pc := 4) dX12_clearBank_4 0 rfl ?_
  refine rhF.get (pc := 5) (rhI _) dX12_clearBank_5 fl_X12_318 h1 rfl ?_
  refine rhF.iconst (pc := 8) (v := 0) dX12_clearBank_8 (by decide) ?_
  refine rhF.ck (fun h2 => ?_)
  refine rhF.ck (fun h3 => ?_)
  refine rhF.iast (pc := 9) dX12_clearBank_9 h2 h3 ?_
  refine rhF.aload_n (pc := 10) dX12_clearBank_10 0 rfl ?_
  refine rhF.get (pc := 11) (rhR _) dX12_clearBank_11 fl_X12_24 h1 rfl ?_
  refine rhF.aload_n (pc := 14) dX12_clearBank_14 0 rfl ?_
  refine rhF.get (pc := 15) (rhI _) dX12_clearBank_15 fl_X12_318 h1 rfl ?_
  refine rhF.iconst (pc := 18) (v := 0) dX12_clearBank_18 (by decide) ?_
  refine rhF.ck (fun h5 => ?_)
  refine rhF.ck (fun h6 => ?_)
  refine rhF.iast (pc := 19) dX12_clearBank_19 h5 h6 ?_
  refine rhF.aload_n (pc := 20) dX12_clearBank_20 0 rfl ?_
  refine rhF.get (pc := 21) (rhR _) dX12_clearBank_21 fl_X12_27 h1 rfl ?_
  refine rhF.aload_n (pc := 24) dX12_clearBank_24 0 rfl ?_
  refine rhF.get (pc := 25) (rhI _) dX12_clearBank_25 fl_X12_318 h1 rfl ?_
  refine rhF.iconst (pc := 28) (v := 0) dX12_clearBank_28 (by decide) ?_
  refine rhF.ck (fun h8 => ?_)
  refine rhF.ck (fun h9 => ?_)
  refine rhF.iast (pc := 29) dX12_clearBank_29 h8 h9 ?_
  refine rhF.aload_n (pc := 30) dX12_clearBank_30 0 rfl ?_
  refine rhF.get (pc := 31) (rhR _) dX12_clearBank_31 fl_X12_30 h1 rfl ?_
  refine rhF.aload_n (pc := 34) dX12_clearBank_34 0 rfl ?_
  refine rhF.get (pc := 35) (rhI _) dX12_clearBank_35 fl_X12_318 h1 rfl ?_
  refine rhF.iconst (pc := 38) (v := 0) dX12_clearBank_38 (by decide) ?_
  refine rhF.ck (fun h11 => ?_)
  refine rhF.ck (fun h12 => ?_)
  refine rhF.iast (pc := 39) dX12_clearBank_39 h11 h12 ?_
  refine rhF.aload_n (pc := 40) dX12_clearBank_40 0 rfl ?_
  refine rhF.get (pc := 41) (rhR _) dX12_clearBank_41 fl_X12_33 h1 rfl ?_
  refine rhF.aload_n (pc := 44) dX12_clearBank_44 0 rfl ?_
  refine rhF.get (pc := 45) (rhI _) dX12_clearBank_45 fl_X12_318 h1 rfl ?_
  refine rhF.sipush (pc := 48) (v := 999) dX12_clearBank_48 (by decide) ?_
  refine rhF.ck (fun h14 => ?_)
  refine rhF.ck (fun h15 => ?_)
  refine rhF.iast (pc := 51) dX12_clearBank_51 h14 h15 ?_
  refine rhF.aload_n (pc := 52) dX12_clearBank_52 0 rfl ?_
  refine rhF.get (pc := 53) (rhR _) dX12_clearBank_53 fl_X12_36 h1 rfl ?_
  refine rhF.aload_n (pc := 56) dX12_clearBank_56 0 rfl ?_
  refine rhF.get (pc := 57) (rhI _) dX12_clearBank_57 fl_X12_318 h1 rfl ?_
  refine rhF.sipush (pc := 60) (v := 999) dX12_clearBank_60 (by decide) ?_
  refine rhF.ck (fun h17 => ?_)
  refine rhF.ck (fun h18 => ?_)
  refine rhF.iast (pc := 63) dX12_clearBank_63 h17 h18 ?_
  refine rhF.aload_n (pc := 64) dX12_clearBank_64 0 rfl ?_
  refine rhF.get (pc := 65) (rhR _) dX12_clearBank_65 fl_X12_57 h1 rfl ?_
  refine rhF.aload_n (pc := 68) dX12_clearBank_68 0 rfl ?_
  refine rhF.get (pc := 69) (rhI _) dX12_clearBank_69 fl_X12_318 h1 rfl ?_
  refine rhF.iconst (pc := 72) (v := 0) dX12_clearBank_72 (by decide) ?_
  refine rhF.ck (fun h20 => ?_)
  refine rhF.ck (fun h21 => ?_)
  refine rhF.zast (pc := 73) dX12_clearBank_73 h20 h21 ?_
  refine rhF.aload_n (pc := 74) dX12_clearBank_74 0 rfl ?_
  refine rhF.get (pc := 75) (rhR _) dX12_clearBank_75 fl_X12_61 h1 rfl ?_
  refine rhF.aload_n (pc := 78) dX12_clearBank_78 0 rfl ?_
  refine rhF.get (pc := 79) (rhI _) dX12_clearBank_79 fl_X12_318 h1 rfl ?_
  refine rhF.iconst (pc := 82) (v := 0) dX12_clearBank_82 (by decide) ?_
  refine rhF.ck (fun h23 => ?_)
  refine rhF.ck (fun h24 => ?_)
  refine rhF.zast (pc := 83) dX12_clearBank_83 h23 h24 ?_
  refine rhF.aload_n (pc := 84) dX12_clearBank_84 0 rfl ?_
  refine rhF.get (pc := 85) (rhR _) dX12_clearBank_85 fl_X12_64 h1 rfl ?_
  refine rhF.aload_n (pc := 88) dX12_clearBank_88 0 rfl ?_
  refine rhF.get (pc := 89) (rhI _) dX12_clearBank_89 fl_X12_318 h1 rfl ?_
  refine rhF.iconst (pc := 92) (v := 0) dX12_clearBank_92 (by decide) ?_
  refine rhF.ck (fun h26 => ?_)
  refine rhF.ck (fun h27 => ?_)
  refine rhF.zast (pc := 93) dX12_clearBank_93 h26 h27 ?_
  refine rhF.aload_n (pc := 94) dX12_clearBank_94 0 rfl ?_
  refine rhF.sipush (pc := 95) (v := 500) dX12_clearBank_95 (by decide) ?_
  refine rhF.aload_n (pc := 98) dX12_clearBank_98 0 rfl ?_
  refine rhF.get (pc := 99) (rhI _) dX12_clearBank_99 fl_X12_318 h1 rfl ?_
  refine rhF.imul (pc := 102) dX12_clearBank_102 ?_
  refine rhF.puti (pc := 103) dX12_clearBank_103 fl_X12_321 h1 (fun q hq => by cases hq; exact Or.inl rfl) ⟨rfl, rfl⟩ (fun _ => rfl) ?_
  refine rhF.aload_n (pc := 106) dX12_clearBank_106 0 rfl ?_
  refine rhF.get (pc := 107) (rhR _) dX12_clearBank_107 fl_X12_39 h1 rfl ?_
  refine rhF.aload_n (pc := 110) dX12_clearBank_110 0 rfl ?_
  refine rhF.get (pc := 111) (rhI _) dX12_clearBank_111 fl_X12_318 h1 rfl ?_
  refine rhF.aload_n (pc := 114) dX12_clearBank_114 0 rfl ?_
  refine rhF.get (pc := 115) (rhI _) dX12_clearBank_115 fl_X12_321 h1 rfl ?_
  refine rhF.ck (fun h30 => ?_)
  refine rhF.ck (fun h31 => ?_)
  refine rhF.iast (pc := 118) dX12_clearBank_118 h30 h31 ?_
  refine rhF.bipush (pc := 119) (v := 64) dX12_clearBank_119 (by decide) ?_
  refine rhF.aload_n (pc := 121) dX12_clearBank_121 0 rfl ?_
  refine rhF.get (pc := 122) (rhI _) dX12_clearBank_122 fl_X12_318 h1 rfl ?_
  refine rhF.imul (pc := 125) dX12_clearBank_125 ?_
  refine rhF.istore_n (pc := 126) (L' := [(1, rhI _), (0, rhR _)]) dX12_clearBank_126 (by decide) rfl ?_
  refine rhF.sub [1, 0] rfl ?_
  exact (b_X12_clearBank_127 rhFU) _ _ _
theorem c_X12_clearBank (E : rhE) (Γ : rhG) (M : rhM) (v0 : Nat) : ∀ a, f_X12_clearBank Γ M v0 = some a → rhC E 1 yX12_clearBank cX12_clearBank 2 none [rhR v0] Γ M ((rhe1U Γ) a) := rhF.met (by decide +kernel) (Nat.le_of_ble_eq_true rfl) (b_X12_clearBank M v0)
def f_X12_isDigit (Γ : rhG) (M : rhM) (v0 : Int32) : Option (Int32) :=
  if v0 < 48 then
    (some 0)
  else
    if 57 < v0 then
      (some 0)
    else
      some 1
set_option maxHeartbeats 4000000 in
set_option maxRecDepth 100000 in
theorem b_X12_isDigit {E : rhE} {Γ : rhG} {M : rhM} : ∀ (v0 : Int32), rhF E 1 1 yX12_isDigit cX12_isDigit (some .boolean) Γ (rhe0I Γ M) (f_X12_isDigit Γ M v0) 0 [(0, rhI v0)] [] Γ M := by
  intro v0
  rw [f_X12_isDigit]
  refine rhF.iload_n (pc := 0) dX12_isDigit_0 0 rfl ?_
  refine rhF.bipush (pc := 1) (v := 48) dX12_isDigit_1 (by decide) ?_
  refine rhF.icmp_lt (pc := 3) 16 dX12_isDigit_3 (by decide) (fun h1 => ?_) (fun h1 => ?_)
  · refine rhF.iconst (pc := 16) (v := 0) dX12_isDigit_16 (by decide) ?_
    exact rhF.zret (pc := 17) dX12_isDigit_17 rfl rfl rfl
  · refine rhF.iload_n (pc := 6) dX12_isDigit_6 0 rfl ?_
    refine rhF.bipush (pc := 7) (v := 57) dX12_isDigit_7 (by decide) ?_
    refine rhF.icmp_gt (pc := 9) 16 dX12_isDigit_9 (by decide) (fun h2 => ?_) (fun h2 => ?_)
    · refine rhF.iconst (pc := 16) (v := 0) dX12_isDigit_16 (by decide) ?_
      exact rhF.zret (pc := 17) dX12_isDigit_17 rfl rfl rfl
    · refine rhF.iconst (pc := 12) (v := 1) dX12_isDigit_12 (by decide) ?_
      refine rhF.goto (pc := 13) 17 dX12_isDigit_13 (by decide) ?_
      exact rhF.zret (pc := 17) dX12_isDigit_17 rfl rfl rfl
theorem c_X12_isDigit (E : rhE) (Γ : rhG) (M : rhM) (v0 : Int32) : ∀ a, f_X12_isDigit Γ M v0 = some a → rhC E 1 yX12_isDigit cX12_isDigit 1 (some .boolean) [rhI v0] Γ M ((rhe0I Γ M) a) := rhF.met (by decide +kernel) (Nat.le_of_ble_eq_true rfl) (b_X12_isDigit v0)
