def rhtx0 : String := "rail house beside neck draws law length weight on worth or and not many from to room takes "
def rhtx1 : String := ";()<>=+-*/"
def rhby0 : List Int32 := [114, 97, 105, 108, 32, 104, 111, 117, 115, 101, 32, 98, 101, 115, 105, 100, 101, 32, 110, 101, 99, 107, 32, 100, 114, 97, 119, 115, 32, 108, 97, 119, 32, 108, 101, 110, 103, 116, 104, 32, 119, 101, 105, 103, 104, 116, 32, 111, 110, 32, 119, 111, 114, 116, 104, 32, 111, 114, 32, 97, 110, 100, 32, 110, 111, 116, 32, 109, 97, 110, 121, 32, 102, 114, 111, 109, 32, 116, 111, 32, 114, 111, 111, 109, 32, 116, 97, 107, 101, 115, 32]
def rhby1 : List Int32 := [59, 40, 41, 60, 62, 61, 43, 45, 42, 47]
def rhnl : List (String × Nat × MethodName × String) := [("RailHouses", 15, ⟨"RailHouses$Reader", "<init>", "()V"⟩, "RailHouses"), ("RailHouses", 268, ⟨"RailHouses$Search", "<init>", "()V"⟩, "RailHouses"), ("RailHouses", 32, ⟨"RailHouses$Stand", "<init>", "()V"⟩, "RailHouses"), ("RailHouses$Search", 22, ⟨"RailHouses$Numbers", "<init>", "()V"⟩, "RailHouses"), ("RailHouses$Search", 40, ⟨"RailHouses$Stand", "<init>", "()V"⟩, "RailHouses"), ("RailHouses$Sights", 55, ⟨"RailHouses$Stand", "<init>", "()V"⟩, "RailHouses"), ("RailHouses$Town", 30, ⟨"RailHouses$Law", "<init>", "()V"⟩, "RailHouses")]
/-! THE RUN OF A METHOD'S BODY over the memory, and what one instruction does to it -/
theorem rhcl_in : ∀ (ci : Nat) (q : vw_C), vwCl[ci]? = some q → ∀ w ∈ u_ws q.1 q.2.1 q.2.2, w ∈ rhTs := by
  intro ci q hq
  rcases (show ci = 0 ∨ ci = 1 ∨ ci = 2 ∨ ci = 3 ∨ ci = 4 ∨ ci = 5 ∨ ci = 6 ∨ ci = 7 ∨ ci = 8 ∨ ci = 9 ∨ ci = 10 ∨ ci = 11 ∨ ci = 12 ∨ 13 ≤ ci by omega) with rfl | rfl | rfl | rfl | rfl | rfl | rfl | rfl | rfl | rfl | rfl | rfl | rfl | h
  · cases hq; exact rhin0
  · cases hq; exact rhin1
  · cases hq; exact rhin2
  · cases hq; exact rhin3
  · cases hq; exact rhin4
  · cases hq; exact rhin5
  · cases hq; exact rhin6
  · cases hq; exact rhin7
  · cases hq; exact rhin8
  · cases hq; exact rhin9
  · cases hq; exact rhin10
  · cases hq; exact rhin11
  · cases hq; exact rhin12
  · rw [List.getElem?_eq_none (by exact h)] at hq; cases hq
theorem rhcl_ty : ∀ (ci : Nat) (q : vw_C), vwCl[ci]? = some q → ∀ k, k < q.2.2 → parseFieldDescriptor (q.2.1 k).2.2.1 = some (rhty ci k) := by
  intro ci q hq
  rcases (show ci = 0 ∨ ci = 1 ∨ ci = 2 ∨ ci = 3 ∨ ci = 4 ∨ ci = 5 ∨ ci = 6 ∨ ci = 7 ∨ ci = 8 ∨ ci = 9 ∨ ci = 10 ∨ ci = 11 ∨ ci = 12 ∨ 13 ≤ ci by omega) with rfl | rfl | rfl | rfl | rfl | rfl | rfl | rfl | rfl | rfl | rfl | rfl | rfl | h
  · cases hq; exact tyX0_ok
  · cases hq; exact tyX1_ok
  · cases hq; exact tyX2_ok
  · cases hq; exact tyX3_ok
  · cases hq; exact tyX4_ok
  · cases hq; exact tyX5_ok
  · cases hq; exact tyX6_ok
  · cases hq; exact tyX7_ok
  · cases hq; exact tyX8_ok
  · cases hq; exact tyX9_ok
  · cases hq; exact tyX10_ok
  · cases hq; exact tyX11_ok
  · cases hq; exact tyX12_ok
  · rw [List.getElem?_eq_none (by exact h)] at hq; cases hq
theorem rhcl_nm : ∀ (ci : Nat) (q : vw_C), vwCl[ci]? = some q → ∀ a, a < q.2.2 → ∀ b, b < q.2.2 → a ≠ b → (q.2.1 a).2.1 ≠ (q.2.1 b).2.1 := by
  intro ci q hq
  rcases (show ci = 0 ∨ ci = 1 ∨ ci = 2 ∨ ci = 3 ∨ ci = 4 ∨ ci = 5 ∨ ci = 6 ∨ ci = 7 ∨ ci = 8 ∨ ci = 9 ∨ ci = 10 ∨ ci = 11 ∨ ci = 12 ∨ 13 ≤ ci by omega) with rfl | rfl | rfl | rfl | rfl | rfl | rfl | rfl | rfl | rfl | rfl | rfl | rfl | h
  · cases hq; exact nmX0
  · cases hq; exact nmX1
  · cases hq; exact nmX2
  · cases hq; exact nmX3
  · cases hq; exact nmX4
  · cases hq; exact nmX5
  · cases hq; exact nmX6
  · cases hq; exact nmX7
  · cases hq; exact nmX8
  · cases hq; exact nmX9
  · cases hq; exact nmX10
  · cases hq; exact nmX11
  · cases hq; exact nmX12
  · rw [List.getElem?_eq_none (by exact h)] at hq; cases hq
theorem rhcl_fn : ∀ (ci : Nat) (q : vw_C), vwCl[ci]? = some q → rhfn ci = q.2.2 ∧ ci < 13 := by
  intro ci q hq
  rcases (show ci = 0 ∨ ci = 1 ∨ ci = 2 ∨ ci = 3 ∨ ci = 4 ∨ ci = 5 ∨ ci = 6 ∨ ci = 7 ∨ ci = 8 ∨ ci = 9 ∨ ci = 10 ∨ ci = 11 ∨ ci = 12 ∨ 13 ≤ ci by omega) with rfl | rfl | rfl | rfl | rfl | rfl | rfl | rfl | rfl | rfl | rfl | rfl | rfl | h
  · cases hq; exact ⟨rfl, by decide⟩
  · cases hq; exact ⟨rfl, by decide⟩
  · cases hq; exact ⟨rfl, by decide⟩
  · cases hq; exact ⟨rfl, by decide⟩
  · cases hq; exact ⟨rfl, by decide⟩
  · cases hq; exact ⟨rfl, by decide⟩
  · cases hq; exact ⟨rfl, by decide⟩
  · cases hq; exact ⟨rfl, by decide⟩
  · cases hq; exact ⟨rfl, by decide⟩
  · cases hq; exact ⟨rfl, by decide⟩
  · cases hq; exact ⟨rfl, by decide⟩
  · cases hq; exact ⟨rfl, by decide⟩
  · cases hq; exact ⟨rfl, by decide⟩
  · rw [List.getElem?_eq_none (by exact h)] at hq; cases hq
def rhL (E : rhE) (L : List (Nat × rhV)) : List (Nat × Value) := L.map (fun q => (q.1, rhv E q.2))
def rhcat : rhV → Nat
  | .inr (.inl _) => 2
  | _ => 1
theorem rhv_cat (E : rhE) (v : rhV) : (rhv E v).category = rhcat v := by
  rcases v with x | x | r | i
  · rfl
  · rfl
  · show (va_rf (rhro E r)).category = 1
    unfold rhro
    split <;> rfl
  · rfl
theorem rhcats (E : rhE) (S : List rhV) : ((S.map (rhv E)).map fun v => v.category) = S.map rhcat := by
  rw [List.map_map]
  exact List.map_congr_left fun v _ => rhv_cat E v
/-- the strings, the JDK's statics, and what the tables say beside their good words -/
def rhS (E : rhE) (U : State) (H : Heap) : Prop := vk_R RX8 19 rhtx0 (E.2.2.2.1 0) U ∧ vk_R RX8 82 rhtx1 (E.2.2.2.1 1) U ∧ vk_S 2 [rhby0.length, rhby1.length] [rhby0, rhby1] (fun i => E.2.2.2.1 i) (fun i => E.2.2.2.1 (2 + i)) (rhad E) U H ∧ va_Z "java/lang/String" "COMPACT_STRINGS" "Z" (.int 1) (rhad E) U H ∧ (va_Z "jdk/internal/util/Preconditions" "SIOOBE_FORMATTER" "Ljava/util/function/BiFunction;" .null (rhad E) U H ∨ va_Z "jdk/internal/util/Preconditions" "SIOOBE_FORMATTER" "Ljava/util/function/BiFunction;" (.ref (E.2.2.2.1 4)) (rhad E) U H) ∧ va_AO RX3 U ∧ va_AO RX7 U ∧ (∀ q ∈ rhnl, va_Nw (.methodLinkNest q.1 q.2.1 q.2.2.1 q.2.2.2) U) ∧ E.2.2.2.1 5 < E.1 ∧ va_X (E.2.2.2.1 5) E.2.2.2.2.1 E.2.2.2.2.2 U H
theorem rhS.go {E : rhE} {s U : State} {H : Heap} {locs : List Loc} (h : rhS E s s.heap) (hz : E.1 ≤ s.heap.size) (hW : s.WarmedH U.vm) (hS : va_S (rhad E) s.heap H locs) : rhS E U H :=
  ⟨h.1.warm hW, h.2.1.warm hW, (h.2.2.1.kept hS.2.1).moved hW.alike, (h.2.2.2.1.kept hS.2.1).moved hW.alike, h.2.2.2.2.1.imp (fun h => (h.kept hS.2.1).moved hW.alike) (fun h => (h.kept hS.2.1).moved hW.alike), h.2.2.2.2.2.1.moved hW.alike, h.2.2.2.2.2.2.1.moved hW.alike, fun q hq => va_Nw.warmM hW (h.2.2.2.2.2.2.2.1 q hq), h.2.2.2.2.2.2.2.2.1, (h.2.2.2.2.2.2.2.2.2.kept (hS.2.1 _ (Nat.lt_of_lt_of_le h.2.2.2.2.2.2.2.2.1 hz) (Nat.not_le.mpr h.2.2.2.2.2.2.2.2.1))).moved hW.alike⟩
theorem rhS.same {E : rhE} {u U : State} {H : Heap} (hv : U.vm = u.vm) (h : rhS E u H) : rhS E U H := by
  have hal : u.vm.Alike U.vm := by rw [hv]; exact Vm.Alike.refl _
  exact ⟨h.1.same hv, h.2.1.same hv, h.2.2.1.moved hal, h.2.2.2.1.moved hal, h.2.2.2.2.1.imp (fun h => h.moved hal) (fun h => h.moved hal), h.2.2.2.2.2.1.moved hal, h.2.2.2.2.2.2.1.moved hal, fun q hq => va_Nw.same rfl hv.symm (h.2.2.2.2.2.2.2.1 q hq), h.2.2.2.2.2.2.2.2.1, h.2.2.2.2.2.2.2.2.2.moved hal⟩
def rhP (E : rhE) (As : List rhV) (Γ : rhG) (M : rhM) : Array Value → State → Prop := fun v U => v = (As.map (rhv E)).toArray ∧ rhH E Γ M U.heap ∧ va_K E.2.1 vwCl (rhtys E) U ∧ rhS E U U.heap
abbrev rhO : Type := Option rhV × rhG × rhM
def rhQ (E : rhE) (o : rhO) : Array Value → State → Outcome → State → Prop := fun _ st oc t => oc = .returned (o.1.map (rhv E)) ∧ rhH E o.2.1 o.2.2 t.heap ∧ va_F (rhad E) st t
def rhrm (d : Nat) (Γ0 Γ1 : rhG) : Room := { frames := d, cells := Γ1.1 - Γ0.1, slots := Γ1.2.1 - Γ0.2.1, locals := 40 * d }
/-- the contract of a method: the outcome o from the memory M, to the letter -/
def rhC (E : rhE) (d : Nat) (y : MethodName) (cc : ByteArray) (nL : Nat) (rt : Option FieldType) (As : List rhV) (Γ : rhG) (M : rhM) (o : rhO) : Prop :=
  Γ.1 ≤ o.2.1.1 ∧ Γ.2.1 ≤ o.2.1.2.1 ∧ ∀ l : Launch, Met l y (Cond.code y cc nL rt :: rhTs) (rhrm d Γ o.2.1) (rhP E As Γ M) (rhQ E o) (o.2.1.1 - Γ.1) (o.2.1.2.1 - Γ.2.1) (rhad E)
def rhX (E : rhE) (nL : Nat) (y : MethodName) (cc : ByteArray) (rt : Option FieldType) (p : Program) (s : State) (m : MethodId) (args : Array Value) (meth : Method) (c : Code) : Prop :=
  p.tables.exec = Jvm.exec ∧ c.code = cc ∧ meth.sig.returnType = rt ∧ c.maxLocals = nL ∧ meth.locks = false ∧ meth.name = y.name ∧ s.vm.findClass y.cls = some m.cls ∧ (∀ w ∈ rhTs, w.before args s = true) ∧ va_K E.2.1 vwCl (rhtys E) s ∧ rhS E s s.heap
def rhW (E : rhE) (d nL : Nat) (y : MethodName) (cc : ByteArray) (rt : Option FieldType) (Γ0 : rhG) (o : rhO) (pc : Nat) (L : List (Nat × rhV)) (S : List rhV) (Γ : rhG) (M : rhM) : Prop :=
  Γ.1 ≤ o.2.1.1 ∧ Γ.2.1 ≤ o.2.1.2.1 ∧ ∀ (p : Program) (l : Launch) (e : Env) (s : State) (m : MethodId) (args : Array Value) (below : List Frame) (meth : Method) (c : Code), rhX E nL y cc rt p s m args meth c → Γ0.1 ≤ Γ.1 → Γ0.2.1 ≤ Γ.2.1 →
    ∀ (H : Heap) (locs : List Loc) (ls : Array Slot), rhH E Γ M H → va_S (rhad E) s.heap H locs → lv_has ls nL (rhL E L) → s.heap.size = E.1 + Γ0.1 →
      W p l e (rhrm d Γ0 o.2.1) s m args below meth c H locs (Γ.1 - Γ0.1) (Γ.2.1 - Γ0.2.1) (MQ below (rhQ E o) args s (o.2.1.1 - Γ0.1) (o.2.1.2.1 - Γ0.2.1) (rhad E)) (F0 m pc ls (S.map (rhv E)))
/-- what the function x of the body says, the machine does -/
def rhF (E : rhE) (d nL : Nat) (y : MethodName) (cc : ByteArray) (rt : Option FieldType) (Γ0 : rhG) {α : Type} (emb : α → rhO) (x : Option α) (pc : Nat) (L : List (Nat × rhV)) (S : List rhV) (Γ : rhG) (M : rhM) : Prop :=
  ∀ a, x = some a → rhW E d nL y cc rt Γ0 (emb a) pc L S Γ M
section RHR
variable {E : rhE} {d nL : Nat} {y : MethodName} {cc : ByteArray} {rt : Option FieldType} {Γ0 : rhG} {α : Type} {emb : α → rhO} {x x1 x2 : Option α} {pc : Nat} {L L' : List (Nat × rhV)} {S S' : List rhV} {Γ : rhG} {M : rhM}
theorem rhF.nope : rhF E d nL y cc rt Γ0 emb (Option.none : Option α) pc L S Γ M := fun _ h => by cases h
/-- one step that changes neither memory nor locals -/
theorem rhF.step {pc' : Nat} (h : ∀ (p : Program) (l : Launch) (e : Env) (R : Room) (s : State) (m : MethodId) (args : Array Value) (below : List Frame) (meth : Method) (c : Code) (H : Heap) (locs : List Loc) (cells slots : Nat) (Q : State → Prop) (ls : Array Slot), rhX E nL y cc rt p s m args meth c → lv_has ls nL (rhL E L) →
      W p l e R s m args below meth c H locs cells slots Q (F0 m pc' ls (S'.map (rhv E))) → W p l e R s m args below meth c H locs cells slots Q (F0 m pc ls (S.map (rhv E))))
    (k : rhF E d nL y cc rt Γ0 emb x pc' L S' Γ M) : rhF E d nL y cc rt Γ0 emb x pc L S Γ M := by
  intro a ha
  obtain ⟨h1, h2, k⟩ := k a ha
  exact ⟨h1, h2, fun p l e s m args below meth c hX g1 g2 H locs ls hH hS hl hA => h p l e _ s m args below meth c H locs _ _ _ ls hX hl (k p l e s m args below meth c hX g1 g2 H locs ls hH hS hl hA)⟩
/-- one step that stores a local -/
theorem rhF.stepL {pc' : Nat} (h : ∀ (p : Program) (l : Launch) (e : Env) (R : Room) (s : State) (m : MethodId) (args : Array Value) (below : List Frame) (meth : Method) (c : Code) (H : Heap) (locs : List Loc) (cells slots : Nat) (Q : State → Prop) (ls : Array Slot), rhX E nL y cc rt p s m args meth c → lv_has ls nL (rhL E L) →
      (∀ ls' : Array Slot, lv_has ls' nL (rhL E L') → W p l e R s m args below meth c H locs cells slots Q (F0 m pc' ls' (S'.map (rhv E)))) → W p l e R s m args below meth c H locs cells slots Q (F0 m pc ls (S.map (rhv E))))
    (k : rhF E d nL y cc rt Γ0 emb x pc' L' S' Γ M) : rhF E d nL y cc rt Γ0 emb x pc L S Γ M := by
  intro a ha
  obtain ⟨h1, h2, k⟩ := k a ha
  exact ⟨h1, h2, fun p l e s m args below meth c hX g1 g2 H locs ls hH hS hl hA => h p l e _ s m args below meth c H locs _ _ _ ls hX hl (fun ls' hl' => k p l e s m args below meth c hX g1 g2 H locs ls' hH hS hl' hA)⟩
/-- fewer locals, in any order -/
theorem rhF.sub (ks : List Nat) (hk : ks.filterMap (fun k => L[k]?) = L') (k : rhF E d nL y cc rt Γ0 emb x pc L' S Γ M) : rhF E d nL y cc rt Γ0 emb x pc L S Γ M := by
  intro a ha
  obtain ⟨h1, h2, k⟩ := k a ha
  refine ⟨h1, h2, fun p l e s m args below meth c hX g1 g2 H locs ls hH hS hl hA => k p l e s m args below meth c hX g1 g2 H locs ls hH hS ?_ hA⟩
  refine lv_sub hl ks ?_
  subst hk
  simp only [lv_pick, rhL, List.map_filterMap, List.getElem?_map]
theorem rhat {ls : Array Slot} (hl : lv_has ls nL (rhL E L)) {k i : Nat} {v : rhV} (hk : L[k]? = some (i, v)) : ls[i]? = some (.val (rhv E v)) := by
  refine lv_at hl k ?_
  rw [rhL, List.getElem?_map, hk]
  rfl
theorem rhF.ite {c : Prop} [Decidable c] (kt : c → rhF E d nL y cc rt Γ0 emb x1 pc L S Γ M) (kf : ¬ c → rhF E d nL y cc rt Γ0 emb x2 pc L S Γ M) : rhF E d nL y cc rt Γ0 emb (if c then x1 else x2) pc L S Γ M := by
  by_cases h : c
  · rw [if_pos h]; exact kt h
  · rw [if_neg h]; exact kf h
theorem rhF.iconst {n : Int} {v : Int32} (hd : decode cc pc = .ok (.iconst n, 1)) (hv : Int32.ofInt n = v) (k : rhF E d nL y cc rt Γ0 emb x (pc + 1) L (rhI v :: S) Γ M) : rhF E d nL y cc rt Γ0 emb x pc L (S) Γ M :=
  rhF.step (fun p l e R s m args below meth c H locs cells slots Q ls hX hl kk => lv_iconst hX.1 hX.2.1 hd hv kk) k
theorem rhF.bipush {n : Int} {v : Int32} (hd : decode cc pc = .ok (.bipush n, 2)) (hv : (Int8.ofInt n).toInt32 = v) (k : rhF E d nL y cc rt Γ0 emb x (pc + 2) L (rhI v :: S) Γ M) : rhF E d nL y cc rt Γ0 emb x pc L (S) Γ M :=
  rhF.step (fun p l e R s m args below meth c H locs cells slots Q ls hX hl kk => lv_bipush hX.1 hX.2.1 hd hv kk) k
theorem rhF.sipush {n : Int} {v : Int32} (hd : decode cc pc = .ok (.sipush n, 3)) (hv : (Int16.ofInt n).toInt32 = v) (k : rhF E d nL y cc rt Γ0 emb x (pc + 3) L (rhI v :: S) Γ M) : rhF E d nL y cc rt Γ0 emb x pc L (S) Γ M :=
  rhF.step (fun p l e R s m args below meth c H locs cells slots Q ls hX hl kk => lv_sipush hX.1 hX.2.1 hd hv kk) k
theorem rhF.lconst {n : Fin 2} {v : Int64} (hd : decode cc pc = .ok (.lconst n, 1)) (hv : Int64.ofNat (n : Nat) = v) (k : rhF E d nL y cc rt Γ0 emb x (pc + 1) L (rhJ v :: S) Γ M) : rhF E d nL y cc rt Γ0 emb x pc L (S) Γ M :=
  rhF.step (fun p l e R s m args below meth c H locs cells slots Q ls hX hl kk => lv_lconst hX.1 hX.2.1 hd hv kk) k
theorem rhF.ldc {i : Nat} {v : Int32} (hd : decode cc pc = .ok (.ldc i, 2)) (hc : Cond.constant y.cls i v ∈ rhTs) (k : rhF E d nL y cc rt Γ0 emb x (pc + 2) L (rhI v :: S) Γ M) : rhF E d nL y cc rt Γ0 emb x pc L (S) Γ M :=
  rhF.step (fun p l e R s m args below meth c H locs cells slots Q ls hX hl kk => lv_ldc hX.1 hX.2.1 hX.2.2.2.2.2.2.1 (hX.2.2.2.2.2.2.2.1 _ hc) hd kk) k
theorem rhF.ldcw {i : Nat} {v : Int32} (hd : decode cc pc = .ok (.ldc_w i, 3)) (hc : Cond.constant y.cls i v ∈ rhTs) (k : rhF E d nL y cc rt Γ0 emb x (pc + 3) L (rhI v :: S) Γ M) : rhF E d nL y cc rt Γ0 emb x pc L (S) Γ M :=
  rhF.step (fun p l e R s m args below meth c H locs cells slots Q ls hX hl kk => lv_ldcw hX.1 hX.2.1 hX.2.2.2.2.2.2.1 (hX.2.2.2.2.2.2.2.1 _ hc) hd kk) k
theorem rhF.ldc2 {i : Nat} {v : Int64} (hd : decode cc pc = .ok (.ldc2_w i, 3)) (hc : Cond.constantLong y.cls i v ∈ rhTs) (k : rhF E d nL y cc rt Γ0 emb x (pc + 3) L (rhJ v :: S) Γ M) : rhF E d nL y cc rt Γ0 emb x pc L (S) Γ M :=
  rhF.step (fun p l e R s m args below meth c H locs cells slots Q ls hX hl kk => lv_ldc2 hX.1 hX.2.1 hX.2.2.2.2.2.2.1 (hX.2.2.2.2.2.2.2.1 _ hc) hd kk) k
theorem rhF.iload {i : Nat} {v : Int32} (hd : decode cc pc = .ok (.iload i, 2)) (g : Nat) (hk : L[g]? = some (i, rhI v)) (k : rhF E d nL y cc rt Γ0 emb x (pc + 2) L (rhI v :: S) Γ M) : rhF E d nL y cc rt Γ0 emb x pc L (S) Γ M :=
  rhF.step (fun p l e R s m args below meth c H locs cells slots Q ls hX hl kk => lv_iload hX.1 hX.2.1 hd (rhat hl hk) kk) k
theorem rhF.iload_n {n : Fin 4} {v : Int32} (hd : decode cc pc = .ok (.iload_n n, 1)) (g : Nat) (hk : L[g]? = some (n.val, rhI v)) (k : rhF E d nL y cc rt Γ0 emb x (pc + 1) L (rhI v :: S) Γ M) : rhF E d nL y cc rt Γ0 emb x pc L (S) Γ M :=
  rhF.step (fun p l e R s m args below meth c H locs cells slots Q ls hX hl kk => lv_iload_n hX.1 hX.2.1 hd rfl (rhat hl hk) kk) k
theorem rhF.lload {i : Nat} {v : Int64} (hd : decode cc pc = .ok (.lload i, 2)) (g : Nat) (hk : L[g]? = some (i, rhJ v)) (k : rhF E d nL y cc rt Γ0 emb x (pc + 2) L (rhJ v :: S) Γ M) : rhF E d nL y cc rt Γ0 emb x pc L (S) Γ M :=
  rhF.step (fun p l e R s m args below meth c H locs cells slots Q ls hX hl kk => lv_lload hX.1 hX.2.1 hd (rhat hl hk) kk) k
theorem rhF.lload_n {n : Fin 4} {v : Int64} (hd : decode cc pc = .ok (.lload_n n, 1)) (g : Nat) (hk : L[g]? = some (n.val, rhJ v)) (k : rhF E d nL y cc rt Γ0 emb x (pc + 1) L (rhJ v :: S) Γ M) : rhF E d nL y cc rt Γ0 emb x pc L (S) Γ M :=
  rhF.step (fun p l e R s m args below meth c H locs cells slots Q ls hX hl kk => lv_lload_n hX.1 hX.2.1 hd rfl (rhat hl hk) kk) k
theorem rhF.aload {i : Nat} {r : Nat} (hd : decode cc pc = .ok (.aload i, 2)) (g : Nat) (hk : L[g]? = some (i, rhR r)) (k : rhF E d nL y cc rt Γ0 emb x (pc + 2) L (rhR r :: S) Γ M) : rhF E d nL y cc rt Γ0 emb x pc L S Γ M := by
  refine rhF.step (fun p l e R s m args below meth c H locs cells slots Q ls hX hl kk => ?_) k
  have h1 := rhat hl hk
  simp only [List.map_cons, rhv] at kk h1 ⊢
  cases hr : rhro E r with
  | none => rw [hr] at kk h1; exact lv_aloadN hX.1 hX.2.1 hd h1 kk
  | some q => rw [hr] at kk h1; exact lv_aload hX.1 hX.2.1 hd h1 kk
theorem rhF.aload_n {n : Fin 4} {r : Nat} (hd : decode cc pc = .ok (.aload_n n, 1)) (g : Nat) (hk : L[g]? = some (n.val, rhR r)) (k : rhF E d nL y cc rt Γ0 emb x (pc + 1) L (rhR r :: S) Γ M) : rhF E d nL y cc rt Γ0 emb x pc L S Γ M := by
  refine rhF.step (fun p l e R s m args below meth c H locs cells slots Q ls hX hl kk => ?_) k
  have h1 := rhat hl hk
  simp only [List.map_cons, rhv] at kk h1 ⊢
  cases hr : rhro E r with
  | none => rw [hr] at kk h1; exact lv_aload_nN hX.1 hX.2.1 hd rfl h1 kk
  | some q => rw [hr] at kk h1; exact lv_aload_n hX.1 hX.2.1 hd rfl h1 kk
theorem rhL_f1 {E : rhE} {L L' : List (Nat × rhV)} {i : Nat} {v : rhV} (h : (i, v) :: L.filter (fun q => !(q.1 == i) && !(q.1 + 1 == i && rhcat q.2 == 2)) = L') : (i, rhv E v) :: (rhL E L).filter (fun q => !(q.1 == i) && !(q.1 + 1 == i && q.2.category == 2)) = rhL E L' := by
  subst h
  simp only [rhL, List.map_cons, List.filter_map]
  congr 2
  refine List.filter_congr fun q _ => ?_
  simp only [Function.comp, rhv_cat]
theorem rhL_f2 {E : rhE} {L L' : List (Nat × rhV)} {i : Nat} {v : rhV} (h : (i, v) :: L.filter (fun q => !(q.1 == i) && (!(q.1 == i + 1) && !(q.1 + 1 == i && rhcat q.2 == 2))) = L') : (i, rhv E v) :: (rhL E L).filter (fun q => !(q.1 == i) && (!(q.1 == i + 1) && !(q.1 + 1 == i && q.2.category == 2))) = rhL E L' := by
  subst h
  simp only [rhL, List.map_cons, List.filter_map]
  congr 2
  refine List.filter_congr fun q _ => ?_
  simp only [Function.comp, rhv_cat]
theorem rhF.istore {i : Nat} {v : Int32} (hd : decode cc pc = .ok (.istore i, 2)) (hn : i < nL) (hL : (i, rhI v) :: L.filter (fun q => !(q.1 == i) && !(q.1 + 1 == i && rhcat q.2 == 2)) = L') (k : rhF E d nL y cc rt Γ0 emb x (pc + 2) L' S Γ M) : rhF E d nL y cc rt Γ0 emb x pc L (rhI v :: S) Γ M := by
  refine rhF.stepL (fun p l e R s m args below meth c H locs cells slots Q ls hX hl kk => ?_) k
  exact lv_istore hX.1 hX.2.1 hd hl hn (rhL_f1 (v := rhI v) hL) kk
theorem rhF.istore_n {n : Fin 4} {v : Int32} (hd : decode cc pc = .ok (.istore_n n, 1)) (hn : n.val < nL) (hL : (n.val, rhI v) :: L.filter (fun q => !(q.1 == n.val) && !(q.1 + 1 == n.val && rhcat q.2 == 2)) = L') (k : rhF E d nL y cc rt Γ0 emb x (pc + 1) L' S Γ M) : rhF E d nL y cc rt Γ0 emb x pc L (rhI v :: S) Γ M := by
  refine rhF.stepL (fun p l e R s m args below meth c H locs cells slots Q ls hX hl kk => ?_) k
  exact lv_istore_n hX.1 hX.2.1 hd rfl hl hn (rhL_f1 (v := rhI v) hL) kk
theorem rhF.lstore {i : Nat} {v : Int64} (hd : decode cc pc = .ok (.lstore i, 2)) (hn : i + 1 < nL) (hL : (i, rhJ v) :: L.filter (fun q => !(q.1 == i) && (!(q.1 == i + 1) && !(q.1 + 1 == i && rhcat q.2 == 2))) = L') (k : rhF E d nL y cc rt Γ0 emb x (pc + 2) L' S Γ M) : rhF E d nL y cc rt Γ0 emb x pc L (rhJ v :: S) Γ M := by
  refine rhF.stepL (fun p l e R s m args below meth c H locs cells slots Q ls hX hl kk => ?_) k
  exact lv_lstore hX.1 hX.2.1 hd hl hn (rhL_f2 (v := rhJ v) hL) kk
theorem rhF.lstore_n {n : Fin 4} {v : Int64} (hd : decode cc pc = .ok (.lstore_n n, 1)) (hn : n.val + 1 < nL) (hL : (n.val, rhJ v) :: L.filter (fun q => !(q.1 == n.val) && (!(q.1 == n.val + 1) && !(q.1 + 1 == n.val && rhcat q.2 == 2))) = L') (k : rhF E d nL y cc rt Γ0 emb x (pc + 1) L' S Γ M) : rhF E d nL y cc rt Γ0 emb x pc L (rhJ v :: S) Γ M := by
  refine rhF.stepL (fun p l e R s m args below meth c H locs cells slots Q ls hX hl kk => ?_) k
  exact lv_lstore_n hX.1 hX.2.1 hd rfl hl hn (rhL_f2 (v := rhJ v) hL) kk
theorem rhF.astore {i : Nat} {r : Nat} (hd : decode cc pc = .ok (.astore i, 2)) (hn : i < nL) (hL : (i, rhR r) :: L.filter (fun q => !(q.1 == i) && !(q.1 + 1 == i && rhcat q.2 == 2)) = L') (k : rhF E d nL y cc rt Γ0 emb x (pc + 2) L' S Γ M) : rhF E d nL y cc rt Γ0 emb x pc L (rhR r :: S) Γ M := by
  refine rhF.stepL (fun p l e R s m args below meth c H locs cells slots Q ls hX hl kk => ?_) k
  have h1 := rhL_f1 (E := E) (v := rhR r) hL
  simp only [List.map_cons, rhv] at kk h1 ⊢
  cases hr : rhro E r with
  | none => rw [hr] at h1; exact lv_astoreN hX.1 hX.2.1 hd hl hn h1 kk
  | some q => rw [hr] at h1; exact lv_astore hX.1 hX.2.1 hd hl hn h1 kk
theorem rhF.astore_n {n : Fin 4} {r : Nat} (hd : decode cc pc = .ok (.astore_n n, 1)) (hn : n.val < nL) (hL : (n.val, rhR r) :: L.filter (fun q => !(q.1 == n.val) && !(q.1 + 1 == n.val && rhcat q.2 == 2)) = L') (k : rhF E d nL y cc rt Γ0 emb x (pc + 1) L' S Γ M) : rhF E d nL y cc rt Γ0 emb x pc L (rhR r :: S) Γ M := by
  refine rhF.stepL (fun p l e R s m args below meth c H locs cells slots Q ls hX hl kk => ?_) k
  have h1 := rhL_f1 (E := E) (v := rhR r) hL
  simp only [List.map_cons, rhv] at kk h1 ⊢
  cases hr : rhro E r with
  | none => rw [hr] at h1; exact lv_astore_nN hX.1 hX.2.1 hd rfl hl hn h1 kk
  | some q => rw [hr] at h1; exact lv_astore_n hX.1 hX.2.1 hd rfl hl hn h1 kk
theorem rhF.iinc {i : Nat} {n : Int} {v w : Int32} (hd : decode cc pc = .ok (.iinc i n, 3)) (g : Nat) (hk : L[g]? = some (i, rhI v)) (hv : v + Int32.ofInt n = w) (hn : i < nL) (hL : (i, rhI w) :: L.filter (fun q => !(q.1 == i) && !(q.1 + 1 == i && rhcat q.2 == 2)) = L') (k : rhF E d nL y cc rt Γ0 emb x (pc + 3) L' S Γ M) : rhF E d nL y cc rt Γ0 emb x pc L S Γ M := by
  refine rhF.stepL (fun p l e R s m args below meth c H locs cells slots Q ls hX hl kk => ?_) k
  exact lv_iinc (k := g) hX.1 hX.2.1 hd hl (by rw [rhL, List.getElem?_map, hk]; rfl) hv hn (rhL_f1 (v := rhI w) hL) kk
theorem rhF.pop {v : Int32} (hd : decode cc pc = .ok (.pop, 1))  (k : rhF E d nL y cc rt Γ0 emb x (pc + 1) L (S) Γ M) : rhF E d nL y cc rt Γ0 emb x pc L (rhI v :: S) Γ M :=
  rhF.step (fun p l e R s m args below meth c H locs cells slots Q ls hX hl kk => lv_pop hX.1 hX.2.1 hd rfl kk) k
theorem rhF.dupi {v : Int32} (hd : decode cc pc = .ok (.dup, 1))  (k : rhF E d nL y cc rt Γ0 emb x (pc + 1) L (rhI v :: rhI v :: S) Γ M) : rhF E d nL y cc rt Γ0 emb x pc L (rhI v :: S) Γ M :=
  rhF.step (fun p l e R s m args below meth c H locs cells slots Q ls hX hl kk => lv_dup hX.1 hX.2.1 hd rfl kk) k
theorem rhF.dupr {v : Nat} (hd : decode cc pc = .ok (.dup, 1))  (k : rhF E d nL y cc rt Γ0 emb x (pc + 1) L (rhR v :: rhR v :: S) Γ M) : rhF E d nL y cc rt Γ0 emb x pc L (rhR v :: S) Γ M :=
  rhF.step (fun p l e R s m args below meth c H locs cells slots Q ls hX hl kk => lv_dup hX.1 hX.2.1 hd (rhv_cat E (rhR v)) kk) k
theorem rhF.dup2ri {v : Int32} {w : Nat} (hd : decode cc pc = .ok (.dup2, 1))  (k : rhF E d nL y cc rt Γ0 emb x (pc + 1) L (rhI v :: rhR w :: rhI v :: rhR w :: S) Γ M) : rhF E d nL y cc rt Γ0 emb x pc L (rhI v :: rhR w :: S) Γ M :=
  rhF.step (fun p l e R s m args below meth c H locs cells slots Q ls hX hl kk => lv_dup2_11 hX.1 hX.2.1 hd rfl (rhv_cat E (rhR w)) kk) k
theorem rhF.iadd {v w : Int32} (hd : decode cc pc = .ok (.iadd, 1))  (k : rhF E d nL y cc rt Γ0 emb x (pc + 1) L (rhI (v + w) :: S) Γ M) : rhF E d nL y cc rt Γ0 emb x pc L (rhI w :: rhI v :: S) Γ M :=
  rhF.step (fun p l e R s m args below meth c H locs cells slots Q ls hX hl kk => lv_iadd hX.1 hX.2.1 hd kk) k
theorem rhF.isub {v w : Int32} (hd : decode cc pc = .ok (.isub, 1))  (k : rhF E d nL y cc rt Γ0 emb x (pc + 1) L (rhI (v - w) :: S) Γ M) : rhF E d nL y cc rt Γ0 emb x pc L (rhI w :: rhI v :: S) Γ M :=
  rhF.step (fun p l e R s m args below meth c H locs cells slots Q ls hX hl kk => lv_isub hX.1 hX.2.1 hd kk) k
theorem rhF.imul {v w : Int32} (hd : decode cc pc = .ok (.imul, 1))  (k : rhF E d nL y cc rt Γ0 emb x (pc + 1) L (rhI (v * w) :: S) Γ M) : rhF E d nL y cc rt Γ0 emb x pc L (rhI w :: rhI v :: S) Γ M :=
  rhF.step (fun p l e R s m args below meth c H locs cells slots Q ls hX hl kk => lv_imul hX.1 hX.2.1 hd kk) k
theorem rhF.iand {v w : Int32} (hd : decode cc pc = .ok (.iand, 1))  (k : rhF E d nL y cc rt Γ0 emb x (pc + 1) L (rhI (v &&& w) :: S) Γ M) : rhF E d nL y cc rt Γ0 emb x pc L (rhI w :: rhI v :: S) Γ M :=
  rhF.step (fun p l e R s m args below meth c H locs cells slots Q ls hX hl kk => lv_iand hX.1 hX.2.1 hd kk) k
theorem rhF.ior {v w : Int32} (hd : decode cc pc = .ok (.ior, 1))  (k : rhF E d nL y cc rt Γ0 emb x (pc + 1) L (rhI (v ||| w) :: S) Γ M) : rhF E d nL y cc rt Γ0 emb x pc L (rhI w :: rhI v :: S) Γ M :=
  rhF.step (fun p l e R s m args below meth c H locs cells slots Q ls hX hl kk => lv_ior hX.1 hX.2.1 hd kk) k
theorem rhF.ixor {v w : Int32} (hd : decode cc pc = .ok (.ixor, 1))  (k : rhF E d nL y cc rt Γ0 emb x (pc + 1) L (rhI (v ^^^ w) :: S) Γ M) : rhF E d nL y cc rt Γ0 emb x pc L (rhI w :: rhI v :: S) Γ M :=
  rhF.step (fun p l e R s m args below meth c H locs cells slots Q ls hX hl kk => lv_ixor hX.1 hX.2.1 hd kk) k
theorem rhF.ishl {v w : Int32} (hd : decode cc pc = .ok (.ishl, 1))  (k : rhF E d nL y cc rt Γ0 emb x (pc + 1) L (rhI (v <<< (w &&& 31)) :: S) Γ M) : rhF E d nL y cc rt Γ0 emb x pc L (rhI w :: rhI v :: S) Γ M :=
  rhF.step (fun p l e R s m args below meth c H locs cells slots Q ls hX hl kk => lv_ishl hX.1 hX.2.1 hd kk) k
theorem rhF.ishr {v w : Int32} (hd : decode cc pc = .ok (.ishr, 1))  (k : rhF E d nL y cc rt Γ0 emb x (pc + 1) L (rhI (v >>> (w &&& 31)) :: S) Γ M) : rhF E d nL y cc rt Γ0 emb x pc L (rhI w :: rhI v :: S) Γ M :=
  rhF.step (fun p l e R s m args below meth c H locs cells slots Q ls hX hl kk => lv_ishr hX.1 hX.2.1 hd kk) k
def rhus (v w : Int32) : Int32 := (v.toUInt32 >>> (w.toUInt32 &&& Int32.toUInt32 31)).toInt32
def rhul (v : Int64) (w : Int32) : Int64 := (v.toUInt64 >>> (w.toInt64.toUInt64 &&& Int64.toUInt64 63)).toInt64
def rhsh (v : Int64) (w : Int32) : Int64 := v <<< (w.toInt64 &&& 63)
theorem rhF.iushr {v w : Int32} (hd : decode cc pc = .ok (.iushr, 1))  (k : rhF E d nL y cc rt Γ0 emb x (pc + 1) L (rhI (rhus v w) :: S) Γ M) : rhF E d nL y cc rt Γ0 emb x pc L (rhI w :: rhI v :: S) Γ M :=
  rhF.step (fun p l e R s m args below meth c H locs cells slots Q ls hX hl kk => lv_iushr hX.1 hX.2.1 hd rfl kk) k
theorem rhF.lushr {v : Int64} {w : Int32} (hd : decode cc pc = .ok (.lushr, 1))  (k : rhF E d nL y cc rt Γ0 emb x (pc + 1) L (rhJ (rhul v w) :: S) Γ M) : rhF E d nL y cc rt Γ0 emb x pc L (rhI w :: rhJ v :: S) Γ M :=
  rhF.step (fun p l e R s m args below meth c H locs cells slots Q ls hX hl kk => lv_lushr hX.1 hX.2.1 hd rfl kk) k
theorem rhF.lshl {v : Int64} {w : Int32} (hd : decode cc pc = .ok (.lshl, 1))  (k : rhF E d nL y cc rt Γ0 emb x (pc + 1) L (rhJ (rhsh v w) :: S) Γ M) : rhF E d nL y cc rt Γ0 emb x pc L (rhI w :: rhJ v :: S) Γ M :=
  rhF.step (fun p l e R s m args below meth c H locs cells slots Q ls hX hl kk => lv_lshl hX.1 hX.2.1 hd rfl kk) k
theorem rhF.lsub {v w : Int64} (hd : decode cc pc = .ok (.lsub, 1))  (k : rhF E d nL y cc rt Γ0 emb x (pc + 1) L (rhJ (v - w) :: S) Γ M) : rhF E d nL y cc rt Γ0 emb x pc L (rhJ w :: rhJ v :: S) Γ M :=
  rhF.step (fun p l e R s m args below meth c H locs cells slots Q ls hX hl kk => lv_lsub hX.1 hX.2.1 hd kk) k
theorem rhF.lmul {v w : Int64} (hd : decode cc pc = .ok (.lmul, 1))  (k : rhF E d nL y cc rt Γ0 emb x (pc + 1) L (rhJ (v * w) :: S) Γ M) : rhF E d nL y cc rt Γ0 emb x pc L (rhJ w :: rhJ v :: S) Γ M :=
  rhF.step (fun p l e R s m args below meth c H locs cells slots Q ls hX hl kk => lv_lmul hX.1 hX.2.1 hd kk) k
theorem rhF.ladd {v w : Int64} (hd : decode cc pc = .ok (.ladd, 1))  (k : rhF E d nL y cc rt Γ0 emb x (pc + 1) L (rhJ (v + w) :: S) Γ M) : rhF E d nL y cc rt Γ0 emb x pc L (rhJ w :: rhJ v :: S) Γ M :=
  rhF.step (fun p l e R s m args below meth c H locs cells slots Q ls hX hl kk => lv_ladd hX.1 hX.2.1 hd kk) k
theorem rhF.land {v w : Int64} (hd : decode cc pc = .ok (.land, 1))  (k : rhF E d nL y cc rt Γ0 emb x (pc + 1) L (rhJ (v &&& w) :: S) Γ M) : rhF E d nL y cc rt Γ0 emb x pc L (rhJ w :: rhJ v :: S) Γ M :=
  rhF.step (fun p l e R s m args below meth c H locs cells slots Q ls hX hl kk => lv_land hX.1 hX.2.1 hd kk) k
theorem rhF.lor {v w : Int64} (hd : decode cc pc = .ok (.lor, 1))  (k : rhF E d nL y cc rt Γ0 emb x (pc + 1) L (rhJ (v ||| w) :: S) Γ M) : rhF E d nL y cc rt Γ0 emb x pc L (rhJ w :: rhJ v :: S) Γ M :=
  rhF.step (fun p l e R s m args below meth c H locs cells slots Q ls hX hl kk => lv_lor hX.1 hX.2.1 hd kk) k
theorem rhF.lxor {v w : Int64} (hd : decode cc pc = .ok (.lxor, 1))  (k : rhF E d nL y cc rt Γ0 emb x (pc + 1) L (rhJ (v ^^^ w) :: S) Γ M) : rhF E d nL y cc rt Γ0 emb x pc L (rhJ w :: rhJ v :: S) Γ M :=
  rhF.step (fun p l e R s m args below meth c H locs cells slots Q ls hX hl kk => lv_lxor hX.1 hX.2.1 hd kk) k
theorem rhF.ineg {v : Int32} (hd : decode cc pc = .ok (.ineg, 1))  (k : rhF E d nL y cc rt Γ0 emb x (pc + 1) L (rhI (-v) :: S) Γ M) : rhF E d nL y cc rt Γ0 emb x pc L (rhI v :: S) Γ M :=
  rhF.step (fun p l e R s m args below meth c H locs cells slots Q ls hX hl kk => lv_ineg hX.1 hX.2.1 hd kk) k
theorem rhF.i2l {v : Int32} (hd : decode cc pc = .ok (.i2l, 1))  (k : rhF E d nL y cc rt Γ0 emb x (pc + 1) L (rhJ v.toInt64 :: S) Γ M) : rhF E d nL y cc rt Γ0 emb x pc L (rhI v :: S) Γ M :=
  rhF.step (fun p l e R s m args below meth c H locs cells slots Q ls hX hl kk => lv_i2l hX.1 hX.2.1 hd rfl kk) k
theorem rhF.l2i {v : Int64} (hd : decode cc pc = .ok (.l2i, 1))  (k : rhF E d nL y cc rt Γ0 emb x (pc + 1) L (rhI v.toInt32 :: S) Γ M) : rhF E d nL y cc rt Γ0 emb x pc L (rhJ v :: S) Γ M :=
  rhF.step (fun p l e R s m args below meth c H locs cells slots Q ls hX hl kk => lv_l2i hX.1 hX.2.1 hd rfl kk) k
theorem rhF.i2b {v : Int32} (hd : decode cc pc = .ok (.i2b, 1))  (k : rhF E d nL y cc rt Γ0 emb x (pc + 1) L (rhI v.toInt8.toInt32 :: S) Γ M) : rhF E d nL y cc rt Γ0 emb x pc L (rhI v :: S) Γ M :=
  rhF.step (fun p l e R s m args below meth c H locs cells slots Q ls hX hl kk => lv_i2b hX.1 hX.2.1 hd rfl kk) k
theorem rhF.lcmp {v w : Int64} (hd : decode cc pc = .ok (.lcmp, 1))  (k : rhF E d nL y cc rt Γ0 emb x (pc + 1) L (rhI (lg_cmp v w) :: S) Γ M) : rhF E d nL y cc rt Γ0 emb x pc L (rhJ w :: rhJ v :: S) Γ M :=
  rhF.step (fun p l e R s m args below meth c H locs cells slots Q ls hX hl kk => W.lcmp hX.1 hX.2.1 hd kk) k
theorem rhF.idiv {v w : Int32} (hd : decode cc pc = .ok (.idiv, 1)) (k : ¬ w = 0 → rhF E d nL y cc rt Γ0 emb x (pc + 1) L (rhI (v / w) :: S) Γ M) : rhF E d nL y cc rt Γ0 emb (if w = 0 then Option.none else x) pc L (rhI w :: rhI v :: S) Γ M := by
  refine rhF.ite (fun _ => rhF.nope) (fun h => ?_)
  exact rhF.step (fun p l e R s m args below meth c H locs cells slots Q ls hX hl kk => lv_idiv hX.1 hX.2.1 hd h kk) (k h)
theorem rhF.idivc {v w : Int32} (hd : decode cc pc = .ok (.idiv, 1)) (h : ¬ w = 0) (k : rhF E d nL y cc rt Γ0 emb x (pc + 1) L (rhI (v / w) :: S) Γ M) : rhF E d nL y cc rt Γ0 emb x pc L (rhI w :: rhI v :: S) Γ M := by
  exact rhF.step (fun p l e R s m args below meth c H locs cells slots Q ls hX hl kk => lv_idiv hX.1 hX.2.1 hd h kk) k
theorem rhF.irem {v w : Int32} (hd : decode cc pc = .ok (.irem, 1)) (k : ¬ w = 0 → rhF E d nL y cc rt Γ0 emb x (pc + 1) L (rhI (v - v / w * w) :: S) Γ M) : rhF E d nL y cc rt Γ0 emb (if w = 0 then Option.none else x) pc L (rhI w :: rhI v :: S) Γ M := by
  refine rhF.ite (fun _ => rhF.nope) (fun h => ?_)
  exact rhF.step (fun p l e R s m args below meth c H locs cells slots Q ls hX hl kk => lv_irem hX.1 hX.2.1 hd h kk) (k h)
theorem rhF.iremc {v w : Int32} (hd : decode cc pc = .ok (.irem, 1)) (h : ¬ w = 0) (k : rhF E d nL y cc rt Γ0 emb x (pc + 1) L (rhI (v - v / w * w) :: S) Γ M) : rhF E d nL y cc rt Γ0 emb x pc L (rhI w :: rhI v :: S) Γ M := by
  exact rhF.step (fun p l e R s m args below meth c H locs cells slots Q ls hX hl kk => lv_irem hX.1 hX.2.1 hd h kk) k
theorem rhF.goto {off : Int} (tgt : Nat) (hd : decode cc pc = .ok (.goto off, 3)) (ht : (pc : Int) + off = (tgt : Int)) (k : rhF E d nL y cc rt Γ0 emb x tgt L S Γ M) : rhF E d nL y cc rt Γ0 emb x pc L S Γ M :=
  rhF.step (fun p l e R s m args below meth c H locs cells slots Q ls hX hl kk => lv_goto hX.1 hX.2.1 hd ht kk) k
theorem rhnlt (a b : Int32) : ¬ a < b ↔ b ≤ a := by
  rw [Int32.lt_iff_toInt_lt, Int32.le_iff_toInt_le]; omega
theorem rhF.if_eq {v : Int32} {off : Int} (tgt : Nat) (hd : decode cc pc = .ok (.ifCond .eq off, 3)) (ht : (pc : Int) + off = (tgt : Int)) (kt : (v = 0) → rhF E d nL y cc rt Γ0 emb x1 tgt L S Γ M) (kf : ¬ (v = 0) → rhF E d nL y cc rt Γ0 emb x2 (pc + 3) L S Γ M) : rhF E d nL y cc rt Γ0 emb (if (v = 0) then x1 else x2) pc L (rhI v :: S) Γ M := by
  by_cases h : (v = 0)
  · rw [if_pos h]; exact rhF.step (fun p l e R s m args below meth c H locs cells slots Q ls hX hl kk => lv_if_eq (tgt := tgt) hX.1 hX.2.1 hd ht (fun _ => kk) (fun q => absurd h q)) (kt h)
  · rw [if_neg h]; exact rhF.step (fun p l e R s m args below meth c H locs cells slots Q ls hX hl kk => lv_if_eq (tgt := tgt) hX.1 hX.2.1 hd ht (fun q => absurd q h) (fun _ => kk)) (kf h)
theorem rhF.if_ne {v : Int32} {off : Int} (tgt : Nat) (hd : decode cc pc = .ok (.ifCond .ne off, 3)) (ht : (pc : Int) + off = (tgt : Int)) (kt : (v = 0) → rhF E d nL y cc rt Γ0 emb x1 (pc + 3) L S Γ M) (kf : ¬ (v = 0) → rhF E d nL y cc rt Γ0 emb x2 tgt L S Γ M) : rhF E d nL y cc rt Γ0 emb (if (v = 0) then x1 else x2) pc L (rhI v :: S) Γ M := by
  by_cases h : (v = 0)
  · rw [if_pos h]; exact rhF.step (fun p l e R s m args below meth c H locs cells slots Q ls hX hl kk => lv_if_ne (tgt := tgt) hX.1 hX.2.1 hd ht (fun q => absurd h q) (fun _ => kk)) (kt h)
  · rw [if_neg h]; exact rhF.step (fun p l e R s m args below meth c H locs cells slots Q ls hX hl kk => lv_if_ne (tgt := tgt) hX.1 hX.2.1 hd ht (fun _ => kk) (fun q => absurd q h)) (kf h)
theorem rhF.if_lt {v : Int32} {off : Int} (tgt : Nat) (hd : decode cc pc = .ok (.ifCond .lt off, 3)) (ht : (pc : Int) + off = (tgt : Int)) (kt : (v < 0) → rhF E d nL y cc rt Γ0 emb x1 tgt L S Γ M) (kf : ¬ (v < 0) → rhF E d nL y cc rt Γ0 emb x2 (pc + 3) L S Γ M) : rhF E d nL y cc rt Γ0 emb (if (v < 0) then x1 else x2) pc L (rhI v :: S) Γ M := by
  by_cases h : (v < 0)
  · rw [if_pos h]; exact rhF.step (fun p l e R s m args below meth c H locs cells slots Q ls hX hl kk => lv_if_lt (tgt := tgt) hX.1 hX.2.1 hd ht (fun _ => kk) (fun q => absurd h q)) (kt h)
  · rw [if_neg h]; exact rhF.step (fun p l e R s m args below meth c H locs cells slots Q ls hX hl kk => lv_if_lt (tgt := tgt) hX.1 hX.2.1 hd ht (fun q => absurd q h) (fun _ => kk)) (kf h)
theorem rhF.if_ge {v : Int32} {off : Int} (tgt : Nat) (hd : decode cc pc = .ok (.ifCond .ge off, 3)) (ht : (pc : Int) + off = (tgt : Int)) (kt : (v < 0) → rhF E d nL y cc rt Γ0 emb x1 (pc + 3) L S Γ M) (kf : ¬ (v < 0) → rhF E d nL y cc rt Γ0 emb x2 tgt L S Γ M) : rhF E d nL y cc rt Γ0 emb (if (v < 0) then x1 else x2) pc L (rhI v :: S) Γ M := by
  by_cases h : (v < 0)
  · rw [if_pos h]; exact rhF.step (fun p l e R s m args below meth c H locs cells slots Q ls hX hl kk => lv_if_ge (tgt := tgt) hX.1 hX.2.1 hd ht (fun q => absurd h ((rhnlt _ _).mpr q)) (fun _ => kk)) (kt h)
  · rw [if_neg h]; exact rhF.step (fun p l e R s m args below meth c H locs cells slots Q ls hX hl kk => lv_if_ge (tgt := tgt) hX.1 hX.2.1 hd ht (fun _ => kk) (fun q => absurd q (fun z => z ((rhnlt _ _).mp h)))) (kf h)
theorem rhF.if_gt {v : Int32} {off : Int} (tgt : Nat) (hd : decode cc pc = .ok (.ifCond .gt off, 3)) (ht : (pc : Int) + off = (tgt : Int)) (kt : (0 < v) → rhF E d nL y cc rt Γ0 emb x1 tgt L S Γ M) (kf : ¬ (0 < v) → rhF E d nL y cc rt Γ0 emb x2 (pc + 3) L S Γ M) : rhF E d nL y cc rt Γ0 emb (if (0 < v) then x1 else x2) pc L (rhI v :: S) Γ M := by
  by_cases h : (0 < v)
  · rw [if_pos h]; exact rhF.step (fun p l e R s m args below meth c H locs cells slots Q ls hX hl kk => lv_if_gt (tgt := tgt) hX.1 hX.2.1 hd ht (fun _ => kk) (fun q => absurd h q)) (kt h)
  · rw [if_neg h]; exact rhF.step (fun p l e R s m args below meth c H locs cells slots Q ls hX hl kk => lv_if_gt (tgt := tgt) hX.1 hX.2.1 hd ht (fun q => absurd q h) (fun _ => kk)) (kf h)
theorem rhF.if_le {v : Int32} {off : Int} (tgt : Nat) (hd : decode cc pc = .ok (.ifCond .le off, 3)) (ht : (pc : Int) + off = (tgt : Int)) (kt : (0 < v) → rhF E d nL y cc rt Γ0 emb x1 (pc + 3) L S Γ M) (kf : ¬ (0 < v) → rhF E d nL y cc rt Γ0 emb x2 tgt L S Γ M) : rhF E d nL y cc rt Γ0 emb (if (0 < v) then x1 else x2) pc L (rhI v :: S) Γ M := by
  by_cases h : (0 < v)
  · rw [if_pos h]; exact rhF.step (fun p l e R s m args below meth c H locs cells slots Q ls hX hl kk => lv_if_le (tgt := tgt) hX.1 hX.2.1 hd ht (fun q => absurd h ((rhnlt _ _).mpr q)) (fun _ => kk)) (kt h)
  · rw [if_neg h]; exact rhF.step (fun p l e R s m args below meth c H locs cells slots Q ls hX hl kk => lv_if_le (tgt := tgt) hX.1 hX.2.1 hd ht (fun _ => kk) (fun q => absurd q (fun z => z ((rhnlt _ _).mp h)))) (kf h)
theorem rhF.icmp_eq {v w : Int32} {off : Int} (tgt : Nat) (hd : decode cc pc = .ok (.if_icmp .eq off, 3)) (ht : (pc : Int) + off = (tgt : Int)) (kt : (v = w) → rhF E d nL y cc rt Γ0 emb x1 tgt L S Γ M) (kf : ¬ (v = w) → rhF E d nL y cc rt Γ0 emb x2 (pc + 3) L S Γ M) : rhF E d nL y cc rt Γ0 emb (if (v = w) then x1 else x2) pc L (rhI w :: rhI v :: S) Γ M := by
  by_cases h : (v = w)
  · rw [if_pos h]; exact rhF.step (fun p l e R s m args below meth c H locs cells slots Q ls hX hl kk => lv_icmp_eq (tgt := tgt) hX.1 hX.2.1 hd ht (fun _ => kk) (fun q => absurd h q)) (kt h)
  · rw [if_neg h]; exact rhF.step (fun p l e R s m args below meth c H locs cells slots Q ls hX hl kk => lv_icmp_eq (tgt := tgt) hX.1 hX.2.1 hd ht (fun q => absurd q h) (fun _ => kk)) (kf h)
theorem rhF.icmp_ne {v w : Int32} {off : Int} (tgt : Nat) (hd : decode cc pc = .ok (.if_icmp .ne off, 3)) (ht : (pc : Int) + off = (tgt : Int)) (kt : (v = w) → rhF E d nL y cc rt Γ0 emb x1 (pc + 3) L S Γ M) (kf : ¬ (v = w) → rhF E d nL y cc rt Γ0 emb x2 tgt L S Γ M) : rhF E d nL y cc rt Γ0 emb (if (v = w) then x1 else x2) pc L (rhI w :: rhI v :: S) Γ M := by
  by_cases h : (v = w)
  · rw [if_pos h]; exact rhF.step (fun p l e R s m args below meth c H locs cells slots Q ls hX hl kk => lv_icmp_ne (tgt := tgt) hX.1 hX.2.1 hd ht (fun q => absurd h q) (fun _ => kk)) (kt h)
  · rw [if_neg h]; exact rhF.step (fun p l e R s m args below meth c H locs cells slots Q ls hX hl kk => lv_icmp_ne (tgt := tgt) hX.1 hX.2.1 hd ht (fun _ => kk) (fun q => absurd q h)) (kf h)
theorem rhF.icmp_lt {v w : Int32} {off : Int} (tgt : Nat) (hd : decode cc pc = .ok (.if_icmp .lt off, 3)) (ht : (pc : Int) + off = (tgt : Int)) (kt : (v < w) → rhF E d nL y cc rt Γ0 emb x1 tgt L S Γ M) (kf : ¬ (v < w) → rhF E d nL y cc rt Γ0 emb x2 (pc + 3) L S Γ M) : rhF E d nL y cc rt Γ0 emb (if (v < w) then x1 else x2) pc L (rhI w :: rhI v :: S) Γ M := by
  by_cases h : (v < w)
  · rw [if_pos h]; exact rhF.step (fun p l e R s m args below meth c H locs cells slots Q ls hX hl kk => lv_icmp_lt (tgt := tgt) hX.1 hX.2.1 hd ht (fun _ => kk) (fun q => absurd h q)) (kt h)
  · rw [if_neg h]; exact rhF.step (fun p l e R s m args below meth c H locs cells slots Q ls hX hl kk => lv_icmp_lt (tgt := tgt) hX.1 hX.2.1 hd ht (fun q => absurd q h) (fun _ => kk)) (kf h)
theorem rhF.icmp_ge {v w : Int32} {off : Int} (tgt : Nat) (hd : decode cc pc = .ok (.if_icmp .ge off, 3)) (ht : (pc : Int) + off = (tgt : Int)) (kt : (v < w) → rhF E d nL y cc rt Γ0 emb x1 (pc + 3) L S Γ M) (kf : ¬ (v < w) → rhF E d nL y cc rt Γ0 emb x2 tgt L S Γ M) : rhF E d nL y cc rt Γ0 emb (if (v < w) then x1 else x2) pc L (rhI w :: rhI v :: S) Γ M := by
  by_cases h : (v < w)
  · rw [if_pos h]; exact rhF.step (fun p l e R s m args below meth c H locs cells slots Q ls hX hl kk => lv_icmp_ge (tgt := tgt) hX.1 hX.2.1 hd ht (fun q => absurd h ((rhnlt _ _).mpr q)) (fun _ => kk)) (kt h)
  · rw [if_neg h]; exact rhF.step (fun p l e R s m args below meth c H locs cells slots Q ls hX hl kk => lv_icmp_ge (tgt := tgt) hX.1 hX.2.1 hd ht (fun _ => kk) (fun q => absurd q (fun z => z ((rhnlt _ _).mp h)))) (kf h)
theorem rhF.icmp_gt {v w : Int32} {off : Int} (tgt : Nat) (hd : decode cc pc = .ok (.if_icmp .gt off, 3)) (ht : (pc : Int) + off = (tgt : Int)) (kt : (w < v) → rhF E d nL y cc rt Γ0 emb x1 tgt L S Γ M) (kf : ¬ (w < v) → rhF E d nL y cc rt Γ0 emb x2 (pc + 3) L S Γ M) : rhF E d nL y cc rt Γ0 emb (if (w < v) then x1 else x2) pc L (rhI w :: rhI v :: S) Γ M := by
  by_cases h : (w < v)
  · rw [if_pos h]; exact rhF.step (fun p l e R s m args below meth c H locs cells slots Q ls hX hl kk => lv_icmp_gt (tgt := tgt) hX.1 hX.2.1 hd ht (fun _ => kk) (fun q => absurd h q)) (kt h)
  · rw [if_neg h]; exact rhF.step (fun p l e R s m args below meth c H locs cells slots Q ls hX hl kk => lv_icmp_gt (tgt := tgt) hX.1 hX.2.1 hd ht (fun q => absurd q h) (fun _ => kk)) (kf h)
theorem rhF.icmp_le {v w : Int32} {off : Int} (tgt : Nat) (hd : decode cc pc = .ok (.if_icmp .le off, 3)) (ht : (pc : Int) + off = (tgt : Int)) (kt : (w < v) → rhF E d nL y cc rt Γ0 emb x1 (pc + 3) L S Γ M) (kf : ¬ (w < v) → rhF E d nL y cc rt Γ0 emb x2 tgt L S Γ M) : rhF E d nL y cc rt Γ0 emb (if (w < v) then x1 else x2) pc L (rhI w :: rhI v :: S) Γ M := by
  by_cases h : (w < v)
  · rw [if_pos h]; exact rhF.step (fun p l e R s m args below meth c H locs cells slots Q ls hX hl kk => lv_icmp_le (tgt := tgt) hX.1 hX.2.1 hd ht (fun q => absurd h ((rhnlt _ _).mpr q)) (fun _ => kk)) (kt h)
  · rw [if_neg h]; exact rhF.step (fun p l e R s m args below meth c H locs cells slots Q ls hX hl kk => lv_icmp_le (tgt := tgt) hX.1 hX.2.1 hd ht (fun _ => kk) (fun q => absurd q (fun z => z ((rhnlt _ _).mp h)))) (kf h)
end RHR
